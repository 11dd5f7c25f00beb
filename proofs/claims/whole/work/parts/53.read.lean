/-! the class's reader: items, fields, texts -/
theorem bt_b {v : Int} (hv : 0 ≤ v ∧ v < 64) {i : Nat} (hi : i < 64) : bj (bt v) i = decide ((i : Int) = v) := by
  obtain ⟨k, rfl⟩ : ∃ k : Nat, v = k := ⟨v.toNat, by omega⟩
  unfold bt
  rw [bj_shl k (by omega) _ hi, bj_1]
  by_cases c : i = k
  · subst c; simp
  · have : ¬ ((i : Int) = k) := by omega
    rw [decide_eq_false this]
    by_cases c2 : k ≤ i
    · have : ¬ i - k = 0 := by omega
      simp [this]
    · simp [c2]
theorem PO.num {e : Ev} {M : Mm} {at_ f : Nat} {c : Ct} {v : Int} (h : PO e M at_ c) (hf : f < 5) : PO e (sJ M (eU e) f (mJ M (eU e) f ||| bt v)) at_ (ctN c f v) := by
  obtain ⟨h1, h2, h3, h4, h5, c1, c2, c3, c4, c5, c6, c7, c8, c9, c10, c11⟩ := h
  have nn := h1.2.2.2.2
  rw [sJ_w]
  refine ⟨h1.wj _ _, h2.wj _ (.inr (.inl rfl)) _, h3, h4, h5, fun g hg => ?_, fun y hy => ?_, c3, c4, c5, ?_, c7, ?_, ?_, ?_, c11⟩
  · rw [mJ_w]
    show _ = va_up (cNu c) f (cNu c f ||| bt v) g
    by_cases q : g = f
    · subst q; rw [va_up_self, va_up_self, c1 g hg]
    · rw [va_up_ne _ _ q, va_up_ne _ _ q, c1 g hg]
  · rw [mJ_wn _ _ nn.2.2.2.2.2.symm]; exact c2 y hy
  · rw [mJ_wn _ _ nn.2.2.2.1.symm]; exact c6
  · rw [mJ_wn _ _ nn.2.2.2.1.symm]; exact c8
  · rw [mJ_wn _ _ nn.2.2.2.1.symm]; exact c9
  · rw [mJ_wn _ _ nn.2.2.2.1.symm]; exact c10
theorem PO.year {e : Ev} {M : Mm} {at_ : Nat} {c : Ct} {y : Nat} (h : PO e M at_ c) (hy : y < 300) : PO e (sJ M (eY e) (y / 64) (mJ M (eY e) (y / 64) ||| bt ((y % 64 : Nat)))) at_ (ctY c (y + 1900)) := by
  obtain ⟨h1, h2, h3, h4, h5, c1, c2, c3, c4, c5, c6, c7, c8, c9, c10, c11⟩ := h
  have nn := h1.2.2.2.2
  rw [sJ_w]
  refine ⟨h1.wj _ _, h2.wj _ (.inr (.inr rfl)) _, h3, h4, h5, fun g hg => ?_, fun z hz => ?_, c3, c4, c5, ?_, c7, ?_, ?_, ?_, c11⟩
  · rw [mJ_wn _ _ nn.2.2.2.2.2]; exact c1 g hg
  · rw [mJ_w]
    show _ = va_up (cYr c) ((y : Int) + 1900 - 1900).toNat true z
    rw [show ((y : Int) + 1900 - 1900).toNat = y by omega]
    by_cases q : z / 64 = y / 64
    · rw [q, va_up_self, bj_or, bt_b (by omega) (by omega)]
      by_cases q2 : z = y
      · subst q2; rw [va_up_self]; simp
      · rw [va_up_ne _ _ q2, ← q, c2 z hz]
        have : ¬ (((z % 64 : Nat) : Int) = ((y % 64 : Nat) : Int)) := by omega
        rw [decide_eq_false this, Bool.or_false]
    · rw [va_up_ne _ _ q, va_up_ne _ _ (by omega), c2 z hz]
  · rw [mJ_wn _ _ nn.2.2.2.2.1.symm]; exact c6
  · rw [mJ_wn _ _ nn.2.2.2.2.1.symm]; exact c8
  · rw [mJ_wn _ _ nn.2.2.2.2.1.symm]; exact c9
  · rw [mJ_wn _ _ nn.2.2.2.2.1.symm]; exact c10
theorem div_st {x st : Int} (h : 1 ≤ st) : (x - st) / st = x / st - 1 := by
  have : x - st = x + st * (-1) := by omega
  rw [this, Int.add_mul_ediv_left _ _ (by omega)]; omega
theorem s_add19 {K : Rs → Mm → Prop} {e : Ev} {f at_ : Nat} {hi st : Int} (hf : f ≤ 5) (hh : -1 ≤ hi ∧ hi ≤ 2199) (hst : 1 ≤ st ∧ st ≤ 1000) (hhf : f ≤ 3 → hi ≤ 63) :
    ∀ (k : Nat) (v : Int) (M : Mm) (c : Ct), k = ((hi - v) / st + 1).toNat → 0 ≤ v → (f = 5 → 1900 ≤ v) → v ≤ 4000 → PO e M at_ c → (∀ M', PO e M' at_ (ctR f st k v c) → K (.inl none) M') → V_X3_add_19 K (k + 1) M (eA e) (i32 (f : Nat)) (i32 hi) (i32 st) (i32 v) := by
  intro k
  induction k with
  | zero =>
    intro v M c ek hv hv5 hv4 h hk
    have hlt : hi < v := by
      by_cases q : hi < v
      · exact q
      · have := Int.ediv_nonneg (show 0 ≤ hi - v by omega) (show 0 ≤ st by omega); omega
    unfold V_X3_add_19
    rw [i32_lt (by omega) (by omega) (by omega) (by omega)]
    exact ⟨fun _ => hk M h, fun q => absurd hlt q⟩
  | succ k ih =>
    intro v M c ek hv hv5 hv4 h hk
    have hge : v ≤ hi := by
      by_cases q : v ≤ hi
      · exact q
      · have h1 : (hi - v) / st < 0 := Int.ediv_neg_of_neg_of_pos (by omega) (by omega)
        omega
    have ek' : k = ((hi - (v + st)) / st + 1).toNat := by
      have := div_st (x := hi - v) hst.1
      rw [show hi - (v + st) = hi - v - st by omega, this]; omega
    obtain ⟨s0, s1, s2, s3, s4, s5, s6, s7, s8, s9⟩ := h.1.2.2.2.1
    have next : ∀ M' c', PO e M' at_ c' → c' = ctM c f v → V_X3_add_111 K (fun M l0 l1 l3 l4 l5 => V_X3_add_19 K (k + 1) M l0 l1 l3 l4 l5) M' (eA e) (i32 (f : Nat)) (i32 hi) (i32 st) (i32 v) := by
      intro M' c' hp ec
      unfold V_X3_add_111
      intro x1 ex
      subst ex
      rw [i32_add]
      refine ih (v + st) M' c' ek' (by omega) (fun q => by have := hv5 q; omega) (by omega) hp (fun M2 hp2 => hk M2 ?_)
      rw [ec] at hp2
      exact hp2
    unfold V_X3_add_19
    rw [i32_lt (by omega) (by omega) (by omega) (by omega)]
    refine ⟨fun q => absurd q (by omega), fun _ x1 e1 => ?_⟩
    rw [q_1900, i32_sub] at e1
    subst e1
    rw [q_4, i32_eq (by omega) (by omega) (by omega) (by omega), q_5, i32_eq (by omega) (by omega) (by omega) (by omega), q_0, i32_lt (by omega) (by omega) (by omega) (by omega), show (299 : Int32) = i32 299 by decide, i32_lt (by omega) (by omega) (by omega) (by omega)]
    refine ⟨fun w4 => ⟨fun w5 => ?_, fun w5 => ?_⟩, fun w4 => ?_⟩
    · have hv5' := hv5 (by omega)
      refine ⟨fun q => absurd q (by omega), fun _ => ⟨fun q => absurd q (by omega), fun _ => ⟨s1, eY e, s7, s4, ?_⟩⟩⟩
      rw [q_64, i32_divp (by omega) (by omega) (by decide) (by decide), s9]
      have vin : vp_in (i32 ((v - 1900) / 64)) 5 := i32_in (by omega) (by omega) (by omega)
      refine ⟨vin, vin, fun M7 e7 => ?_⟩
      rw [i32_clamp (by omega) (by omega), i32_mul, i32_sub] at e7
      subst e7
      have hp := h.year (y := (v - 1900).toNat) (by omega)
      refine next _ (ctY c (((v - 1900).toNat : Nat) + 1900)) ?_ ?_
      · have ei : ((v - 1900) / 64).toNat = (v - 1900).toNat / 64 := by omega
        have eb : v - 1900 - (v - 1900) / 64 * 64 = (((v - 1900).toNat % 64 : Nat) : Int) := by omega
        rw [ei, eb]
        exact hp
      · unfold ctM
        rw [if_pos (by omega)]
        congr 1; omega
    · refine ⟨s1, eU e, s6, s3, ?_⟩
      rw [s8]
      have vin : vp_in (i32 (f : Nat)) 5 := i32_in (by omega) (by omega) (by omega)
      refine ⟨vin, vin, fun M13 e13 => ?_⟩
      rw [i32_clamp (by omega) (by omega), Int.toNat_natCast] at e13
      subst e13
      refine next _ _ (h.num (f := f) (v := v) (by omega)) ?_
      unfold ctM
      rw [if_neg (by omega), if_neg (by omega)]
    · have e4 : f = 4 := by omega
      subst e4
      refine ⟨s1, eU e, s6, s3, ?_⟩
      rw [s8]
      have vin : vp_in (i32 ((4 : Nat))) 5 := i32_in (by omega) (by omega) (by omega)
      refine ⟨vin, vin, fun M19 e19 => ?_⟩
      rw [i32_clamp (by omega) (by omega), Int.toNat_natCast, q_7, i32_divp (by omega) (by omega) (by decide) (by decide), i32_mul, i32_sub, show v - v / 7 * 7 = v % 7 by omega] at e19
      subst e19
      refine next _ _ (h.num (f := 4) (v := v % 7) (by omega)) ?_
      unfold ctM
      rw [if_neg (by omega), if_pos rfl]
theorem s_add {K : Rs → Mm → Prop} {e : Ev} {M : Mm} {f at_ : Nat} {c : Ct} {lo hi st : Int} (hf : f ≤ 5) (hh : -1 ≤ hi ∧ hi ≤ 2199) (hst : 1 ≤ st ∧ st ≤ 1000) (hhf : f ≤ 3 → hi ≤ 63) (hlo : 0 ≤ lo ∧ lo ≤ 4000) (h5 : f = 5 → 1900 ≤ lo) (h : PO e M at_ c)
    (hk : ∀ M', PO e M' at_ (ctA c f lo hi st) → K (.inl none) M') : V_X3_add K M (eA e) (i32 (f : Nat)) (i32 lo) (i32 hi) (i32 st) := by
  unfold V_X3_add V_X3_add_15
  rw [q_1, i32_lt (by omega) (by omega) (by omega) (by omega), q_0, i32_lt (by omega) (by omega) (by omega) (by omega), q_5, i32_le (by omega) (by omega) (by omega) (by omega)]
  refine ⟨fun q => absurd q (by omega), fun _ => ⟨fun q => absurd q (by omega), fun _ => ⟨fun _ => ⟨_, s_add19 hf hh hst hhf _ lo M c rfl hlo.1 h5 hlo.2 h hk⟩, fun q => absurd (by omega) q⟩⟩⟩
theorem tG3 : ∀ f, f ≤ 3 → tG f ≤ 63 := by decide
theorem s_str {K : Rs → Mm → Prop} {e : Ev} {M : Mm} {f at_ : Nat} {c : Ct} {lo hi : Int} (hf : f ≤ 5) (hh : -1 ≤ hi ∧ hi ≤ 2199) (hhf : f ≤ 3 → hi ≤ 63) (hlo : 0 ≤ lo ∧ lo ≤ 4000) (h5 : f = 5 → 1900 ≤ lo) (h : PO e M at_ c)
    (hO : ∀ a1 c', pBn (pStep (eS e) at_) (fun a st => .inr (a, ctA c f lo hi st)) = .inr (a1, c') → ∀ M', PO e M' a1 c' → K (.inl none) M') (hF : ∀ co pl, pBn (pStep (eS e) at_) (fun a st => (.inr (a, ctA c f lo hi st) : PR Ct)) = .inl (co, pl) → ∀ M', PF e M' co pl → K (.inl none) M') : V_X4_addStretch K M (eT e) (i32 (f : Nat)) (i32 lo) (i32 hi) := by
  have hn := h.1.2.2.1
  have hsb := hn.b at_
  have c40 : ∀ (M' : Mm) (a1 : Nat) (st : Int), pStep (eS e) at_ = .inr (a1, st) → 1 ≤ st ∧ st ≤ 1000 → PO e M' a1 c → V_X4_addStretch_40 K M' (eT e) (i32 (f : Nat)) (i32 lo) (i32 hi) (i32 st) := by
    intro M' a1 st e1 hst hp
    unfold V_X4_addStretch_40 V_X4_addStretch_59
    refine ⟨hp.1.1.1, fun q => absurd hp.2.2.2.2.1 q, fun _ => ⟨eA e, hp.1.1.2.2.1, hp.1.2.2.2.1.2.1, ?_⟩⟩
    exact s_add hf hh hst hhf hlo h5 hp (fun M2 hp2 => kV_i (hO a1 _ (by rw [e1]; rfl) M2 hp2))
  unfold V_X4_addStretch
  refine ⟨h.1.1.1, fun q => absurd h.2.2.2.2.1 q, fun _ => h.lk (kI_i ?_)⟩
  rw [q_47, i32_eq (by omega) (by omega) (by omega) (by omega)]
  refine ⟨fun q => ?_, fun q => ⟨h.1.1.1, fun M5 e5 => ?_⟩⟩
  · rw [q_1]
    exact c40 M at_ 1 (by unfold pStep; rw [if_neg q]) (by omega) h
  · subst e5
    have hl := hn.lt (i := at_) (by omega)
    have hp := h.adv hl
    have es : pStep (eS e) at_ = pNum (eS e) 4 1 1000 (at_ + 1) := by unfold pStep; rw [if_pos q]
    rw [q_1, show (4 : Int32) = i32 ((4 : Nat)) by decide, show (1000 : Int32) = i32 1000 by decide]
    rw [q_1] at hp
    refine s_num hp (by omega) (by omega) (by omega) (fun a1 v e1 M' hp' => kI_i ?_) (fun co pl e1 M' v hp' => kI_i ?_)
    · have := pNum_at hn (by omega) e1
      exact c40 M' a1 v (es.trans e1) (by omega) hp'
    · unfold V_X4_addStretch_40 V_X4_addStretch_59
      exact ⟨hp'.1.1.1, fun _ => hF co pl (by rw [es, e1]; rfl) M' hp', fun q => absurd q hp'.ne⟩
theorem s_strF {K : Rs → Mm → Prop} {e : Ev} {M : Mm} {co pl : Nat} {x y z : Int32} (h : PF e M co pl) (hk : K (.inl none) M) : V_X4_addStretch K M (eT e) x y z := by
  unfold V_X4_addStretch V_X4_addStretch_40 V_X4_addStretch_59
  exact ⟨h.1.1.1, fun _ => ⟨h.1.1.1, fun _ => hk, fun q => absurd q h.ne⟩, fun q => absurd q h.ne⟩
/-- a long of the rule's own row is set -/
theorem PO.row {e : Ev} {M : Mm} {at_ : Nat} {c c' : Ct} (h : PO e M at_ c) (k : Nat) (x : Int64) (hc : CtC (mI M (eA e)) (va_up (mJ M (eA e)) k x) (mJ M (eU e)) (mJ M (eY e)) c') : PO e (sJ M (eA e) k x) at_ c' := by
  obtain ⟨h1, h2, h3, h4, h5, h6⟩ := h
  have nn := h1.2.2.2.2
  rw [sJ_w]
  refine ⟨h1.wj _ _, h2.wj _ (.inl rfl) _, h3, h4, h5, ?_⟩
  rw [mJ_w, mJ_wn _ _ nn.2.2.2.1, mJ_wn _ _ nn.2.2.2.2.1]
  exact hc
theorem PO.rowI {e : Ev} {M : Mm} {at_ : Nat} {c c' : Ct} (h : PO e M at_ c) (k : Nat) (x : Int32) (hc : CtC (va_up (mI M (eA e)) k x) (mJ M (eA e)) (mJ M (eU e)) (mJ M (eY e)) c') : PO e (sI M (eA e) k x) at_ c' := by
  obtain ⟨h1, h2, h3, h4, h5, h6⟩ := h
  have nn := h1.2.2.2.2
  rw [sI_w]
  refine ⟨h1.wa _, h2.wa nn.1 _, ?_, h4, ?_, ?_⟩
  · rw [mI_wn _ _ nn.1]; exact h3
  · rw [mI_wn _ _ nn.1]; exact h5
  · rw [mI_w]; exact hc
theorem PF.row {e : Ev} {M : Mm} {co pl : Nat} (h : PF e M co pl) (k : Nat) (x : Int64) : PF e (sJ M (eA e) k x) co pl := by
  obtain ⟨h1, h2, h3, h4, h5, h6⟩ := h
  rw [sJ_w]
  exact ⟨h1.wj _ _, h2.wj _ (.inl rfl) _, h3, h4, h5, h6⟩
theorem PO.bl {e : Ev} {M : Mm} {at_ : Nat} {c : Ct} (h : PO e M at_ c) (x : Int64) : PO e (sJ M (eA e) 6 (mJ M (eA e) 6 ||| x)) at_ (ctB c x) := by
  obtain ⟨c1, c2, c3, c4, c5, c6, c7, c8, c9, c10, c11⟩ := h.2.2.2.2.2
  refine h.row 6 _ ⟨c1, c2, c3, c4, c5, by rw [va_up_self, c6]; rfl, c7, ?_, ?_, ?_, c11⟩
  · rw [va_up_ne _ _ (by decide)]; exact c8
  · rw [va_up_ne _ _ (by decide)]; exact c9
  · rw [va_up_ne _ _ (by decide)]; exact c10
theorem PO.ne8 {e : Ev} {M : Mm} {at_ : Nat} {c : Ct} (h : PO e M at_ c) (x : Int64) : PO e (sJ M (eA e) 8 (mJ M (eA e) 8 ||| x)) at_ (ctE c x) := by
  obtain ⟨c1, c2, c3, c4, c5, c6, c7, c8, c9, c10, c11⟩ := h.2.2.2.2.2
  refine h.row 8 _ ⟨c1, c2, c3, c4, c5, ?_, c7, by rw [va_up_self, c8]; rfl, ?_, ?_, c11⟩
  · rw [va_up_ne _ _ (by decide)]; exact c6
  · rw [va_up_ne _ _ (by decide)]; exact c9
  · rw [va_up_ne _ _ (by decide)]; exact c10
theorem PO.ld {e : Ev} {M : Mm} {at_ : Nat} {c : Ct} (h : PO e M at_ c) (x : Int64) : PO e (sJ M (eA e) 9 (mJ M (eA e) 9 ||| x)) at_ (ctD c x) := by
  obtain ⟨c1, c2, c3, c4, c5, c6, c7, c8, c9, c10, c11⟩ := h.2.2.2.2.2
  refine h.row 9 _ ⟨c1, c2, c3, c4, c5, ?_, c7, ?_, by rw [va_up_self, c9]; rfl, ?_, c11⟩
  · rw [va_up_ne _ _ (by decide)]; exact c6
  · rw [va_up_ne _ _ (by decide)]; exact c8
  · rw [va_up_ne _ _ (by decide)]; exact c10
theorem PO.kw {e : Ev} {M : Mm} {at_ k w : Nat} {c : Ct} {x : Int64} (h : PO e M at_ c) (hk : 1 ≤ k ∧ k ≤ 5) (hw : w < 7) (hx : ∀ j n, 1 ≤ j → j ≤ 5 → n < 7 → bj x (7 * j + n) = cKw c j n) : PO e (sJ M (eA e) 10 (x ||| bt ((7 * k + w : Nat)))) at_ (ctK c k w) := by
  obtain ⟨c1, c2, c3, c4, c5, c6, c7, c8, c9, c10, c11⟩ := h.2.2.2.2.2
  refine h.row 10 _ ⟨c1, c2, c3, c4, c5, ?_, c7, ?_, ?_, fun j n j1 j2 j3 => ?_, c11⟩
  · rw [va_up_ne _ _ (by decide)]; exact c6
  · rw [va_up_ne _ _ (by decide)]; exact c8
  · rw [va_up_ne _ _ (by decide)]; exact c9
  · rw [va_up_self, bj_or, hx j n j1 j2 j3, bt_b (by omega) (by omega)]
    show _ = (cKw c j n || (decide (j = k) && decide (n = w)))
    congr 1
    rw [← Bool.decide_and]
    apply decide_eq_decide.mpr
    omega
theorem PO.lw {e : Ev} {M : Mm} {at_ : Nat} {c : Ct} (h : PO e M at_ c) : PO e (sI M (eA e) 7 1) at_ (ctL c) := by
  obtain ⟨c1, c2, c3, c4, c5, c6, c7, c8, c9, c10, c11⟩ := h.2.2.2.2.2
  refine h.rowI 7 _ ⟨c1, c2, ?_, ?_, ?_, c6, by rw [va_up_self]; rfl, c8, c9, c10, ?_⟩
  · rw [va_up_ne _ _ (by decide)]; exact c3
  · rw [va_up_ne _ _ (by decide)]; exact c4
  · rw [va_up_ne _ _ (by decide)]; exact c5
  · rw [va_up_ne _ _ (by decide)]; exact c11
theorem s_last87 {K : Rs → Mm → Prop} {e : Ev} {M : Mm} {at_ : Nat} {c : Ct} (h : PO e M at_ c) (hO : ∀ a1 c', pLast (eS e) at_ c = .inr (a1, c') → ∀ M', PO e M' a1 c' → K (.inl none) M') (hF : ∀ co pl, pLast (eS e) at_ c = .inl (co, pl) → ∀ M', PF e M' co pl → K (.inl none) M') : V_X4_readLastDay K M (eT e) := by
  have hn := h.1.2.2.1
  have hsb := hn.b at_
  have rl := h.1.2.2.2.1
  unfold V_X4_readLastDay V_X4_readLastDay_87
  refine ⟨h.1.1.1, h.lk (kI_i ?_)⟩
  rw [show (87 : Int32) = i32 87 by decide, i32_eq (by omega) (by omega) (by omega) (by omega)]
  refine ⟨fun q => ⟨h.1.1.1, h.lk (kI_i ?_)⟩, fun q => ⟨h.1.1.1, fun M20 e20 => ?_⟩⟩
  · rw [q_45, i32_eq (by omega) (by omega) (by omega) (by omega)]
    refine ⟨fun q2 => ⟨h.1.1.1, eA e, h.1.1.2.2.1, rl.2.1, fun M10 e10 => ?_⟩, fun q2 => ⟨h.1.1.1, fun M12 e12 => ?_⟩⟩
    · subst e10
      exact hO at_ _ (by unfold pLast; rw [if_neg q, if_neg q2]) _ (h.bl 1)
    · have hl := hn.lt (i := at_) (by omega)
      have hp := h.adv hl
      rw [← e12] at hp
      have el : pLast (eS e) at_ c = pBn (pNum (eS e) 2 1 30 (at_ + 1)) (fun a1 k => .inr (a1, ctB c (bt k))) := by unfold pLast; rw [if_neg q, if_pos q2]
      refine ⟨eA e, hp.1.1.2.2.1, hp.1.2.2.2.1.2.1, ?_⟩
      rw [show (2 : Int32) = i32 ((2 : Nat)) by decide, q_1, q_30]
      have b0 : mJ M12 (eA e) 6 = cBl c := hp.2.2.2.2.2.2.2.2.2.2.1
      refine s_num hp (by omega) (by omega) (by omega) (fun a1 v e1 M' hp' => kI_i ⟨hp'.1.2.2.2.1.2.1, fun M18 e18 => ?_⟩) (fun co pl e1 M' v hp' => kI_i ⟨hp'.1.2.2.2.1.2.1, fun M18 e18 => ?_⟩)
      · subst e18
        have b1 : mJ M' (eA e) 6 = cBl c := hp'.2.2.2.2.2.2.2.2.2.2.1
        have := hp'.bl (bt v)
        rw [b1] at this
        rw [b0]
        exact hO a1 _ (by rw [el, e1]; rfl) _ this
      · subst e18
        exact hF co pl (by rw [el, e1]; rfl) _ (hp'.row 6 _)
  · have hl := hn.lt (i := at_) (by omega)
    have hp := h.adv hl
    rw [← e20] at hp
    refine ⟨eA e, hp.1.1.2.2.1, hp.1.2.2.2.1.2.1, fun M23 e23 => ?_⟩
    subst e23
    exact hO (at_ + 1) _ (by unfold pLast; rw [if_pos q]) _ hp.lw
theorem s_aft {K : Rs → Mm → Prop} {e : Ev} {M : Mm} {f at_ : Nat} {v : Int} {c : Ct} (hf : f ≤ 5) (hv : tL f ≤ v ∧ v ≤ tG f) (h : PO e M at_ c) (hO : ∀ a1 c', pAft (eS e) f at_ v c = .inr (a1, c') → ∀ M', PO e M' a1 c' → K (.inl none) M') (hF : ∀ co pl, pAft (eS e) f at_ v c = .inl (co, pl) → ∀ M', PF e M' co pl → K (.inl none) M') :
    V_X4_look (kI (fun r6 M5 => ((¬ r6 = (45 : Int32) → (ob M5 (eT e) 4 ∧ V_X4_look (kI (fun r9 M8 => ((¬ r9 = (47 : Int32) → ((¬ i32 (f : Nat) = (2 : Int32) → V_X4_readItem_213 K M8 (eT e) (i32 (f : Nat)) (i32 v)) ∧ (i32 (f : Nat) = (2 : Int32) → (ob M8 (eT e) 4 ∧ V_X4_look (kI (fun r12 M11 => ((¬ r12 = (87 : Int32) → V_X4_readItem_213 K M11 (eT e) (i32 (f : Nat)) (i32 v)) ∧ (r12 = (87 : Int32) → (ob M11 (eT e) 4 ∧ ∀ M14, M14 = sI M11 (eT e) 2 ((mI M11 (eT e) 2) + (1 : Int32)) → ∃ b15, mP M14 (eT e) 5 = some b15 ∧ (ob M14 b15 3 ∧ ∀ M17, M17 = sJ M14 b15 8 ((mJ M14 b15 8) ||| ((1 : Int64) <<< ((i32 v).toInt64 &&& 63))) → V_X4_readItem_258 K M17 ))))) (fun _ _ => False)) M8 (eT e))))) ∧ (r9 = (47 : Int32) → ((¬ i32 (f : Nat) = (4 : Int32) → V_X4_readItem_160 K M8 (i32 (f : Nat)) (eT e) (i32 (f : Nat)) (i32 v)) ∧ (i32 (f : Nat) = (4 : Int32) → (((7 : Int32) ≤ i32 v → V_X4_readItem_160 K M8 (i32 (f : Nat)) (eT e) (i32 (f : Nat)) (i32 v)) ∧ (¬ (7 : Int32) ≤ i32 v → V_X4_readItem_165 K M8 (eT e) (i32 (f : Nat)) (i32 v) (6 : Int32)))))))) (fun _ _ => False)) M5 (eT e))) ∧ (r6 = (45 : Int32) → (ob M5 (eT e) 4 ∧ ∀ M19, M19 = sI M5 (eT e) 2 ((mI M5 (eT e) 2) + (1 : Int32)) → ∀ x20 : Int32, x20 = (mI M19 (eT e) 2) → V_X4_readValue (kI (fun r22 M21 => ((i32 v ≤ r22 → V_X4_readItem_121 K M21 (eT e) (i32 (f : Nat)) (i32 v) r22) ∧ (¬ i32 v ≤ r22 → (ob M21 (eT e) 4 ∧ V_X4_fail (kV (fun M24 => V_X4_readItem_121 K M24 (eT e) (i32 (f : Nat)) (i32 v) r22) (fun _ _ => False)) M21 (eT e) (3 : Int32) x20)))) (fun _ _ => False)) M19 (eT e) (i32 (f : Nat)))))) (fun _ _ => False)) M (eT e) := by
  have hn := h.1.2.2.1
  have hsb := hn.b at_
  have rl := h.1.2.2.2.1
  have ht := tLG hf
  have htl5 : f = 5 → tL f = 1900 := fun q => by subst q; rfl
  have hadd : f ≤ 3 → tG f ≤ 63 := tG3 f
  unfold pAft at hO hF
  refine h.lk (kI_i ?_)
  rw [q_45, i32_eq (by omega) (by omega) (by omega) (by omega)]
  refine ⟨fun q1 => ⟨h.1.1.1, h.lk (kI_i ?_)⟩, fun q1 => ⟨h.1.1.1, fun M19 e19 x20 e20 => ?_⟩⟩
  · rw [if_neg q1] at hO hF
    rw [q_47, i32_eq (by omega) (by omega) (by omega) (by omega), q_4, i32_eq (by omega) (by omega) (by omega) (by omega), q_7, i32_le (by omega) (by omega) (by omega) (by omega), q_2, i32_eq (by omega) (by omega) (by omega) (by omega), q_6]
    have i213 : ¬ eS e at_ = 47 → ¬ (f = 2 ∧ eS e at_ = 87) → V_X4_readItem_213 K M (eT e) (i32 (f : Nat)) (i32 v) := by
      intro w1 w2
      rw [if_neg w1, if_neg w2] at hO hF
      have i247 : ¬ (f = 4 ∧ eS e at_ = 76) → ¬ (f = 4 ∧ eS e at_ = 35) → V_X4_readItem_247 K M (eT e) (i32 (f : Nat)) (i32 v) := by
        intro w3 w4
        rw [if_neg w3, if_neg w4] at hO
        unfold V_X4_readItem_247 V_X4_readItem_258
        refine ⟨h.1.1.1, eA e, h.1.1.2.2.1, rl.2.1, ?_⟩
        rw [q_1]
        refine s_add hf (by omega) (by omega) (fun q => by have := hadd q; omega) (by omega) (fun q => by have := htl5 q; omega) h (fun M' hp => kV_i (hO at_ _ rfl M' ?_))
        have : ctA c f v v 1 = ctM c f v := by
          unfold ctA
          rw [show ((v - v) / 1 + 1).toNat = 1 by omega]
          rfl
        rw [this] at hp
        exact hp
      have i236 : f = 4 → (eS e at_ = 76 ∨ eS e at_ = 35) → V_X4_readItem_236 K M (eT e) (i32 v) := by
        intro w3 w4
        unfold V_X4_readItem_236 V_X4_readItem_258
        refine ⟨h.1.1.1, ?_⟩
        rw [q_7, i32_divp (by omega) (by omega) (by decide) (by decide), i32_mul, i32_sub, show v - v / 7 * 7 = v % 7 by omega]
        unfold V_X4_readWhichWeekday V_X4_readWhichWeekday_14 V_X4_readWhichWeekday_73
        refine ⟨h.1.1.1, h.lk (kI_i ?_)⟩
        rw [show (76 : Int32) = i32 76 by decide, i32_eq (by omega) (by omega) (by omega) (by omega)]
        have hl := hn.lt (i := at_) (by omega)
        have hp := h.adv hl
        refine ⟨fun w5 => ⟨h.1.1.1, fun M2 e2 => ⟨fun _ => ?_, fun q => absurd rfl q⟩⟩, fun w5 => ⟨h.1.1.1, fun M2 e2 => ⟨fun q => absurd q (by decide), fun _ => ?_⟩⟩⟩
        · have w6 : eS e at_ = 35 := by omega
          rw [if_neg (by omega), if_pos ⟨w3, w6⟩] at hO hF
          rw [← e2] at hp
          refine ⟨eA e, hp.1.1.2.2.1, hp.1.2.2.2.1.2.1, ?_⟩
          rw [show (1 : Int32) = i32 ((1 : Nat)) by decide, show (5 : Int32) = i32 5 by decide]
          refine s_num (lo := 1) (hi := 5) (figs := 1) hp (by omega) (by omega) (by omega) (fun a1 kk e1 M' hp' => kI_i ⟨hp'.1.2.2.2.1.2.1, fun M8 e8 => kV_i ?_⟩) (fun co pl e1 M' vv hp' => kI_i ⟨hp'.1.2.2.2.1.2.1, fun M8 e8 => kV_i ?_⟩)
          · have hb := pNum_at hn (by omega) e1
            rw [show (7 : Int32) = i32 7 by decide, i32_mul, i32_add] at e8
            have ek : (7 : Int) * kk + v % 7 = ((7 * kk.toNat + (v % 7).toNat : Nat) : Int) := by omega
            rw [ek] at e8
            subst e8
            exact hO a1 _ (by rw [e1]; rfl) _ (hp'.kw (k := kk.toNat) (w := (v % 7).toNat) (by omega) (by omega) hp.2.2.2.2.2.2.2.2.2.2.2.2.2.2.1)
          · subst e8
            exact hF co pl (by rw [e1]; rfl) _ (hp'.row 10 _)
        · rw [if_pos ⟨w3, w5⟩] at hO
          rw [← e2] at hp
          refine ⟨eA e, hp.1.1.2.2.1, hp.1.2.2.2.1.2.1, fun M11 e11 => kV_i ?_⟩
          subst e11
          exact hO (at_ + 1) _ rfl _ (hp.ld _)
      unfold V_X4_readItem_213
      rw [q_4, i32_eq (by omega) (by omega) (by omega) (by omega)]
      refine ⟨fun w3 => i247 (fun c => w3 (by omega)) (fun c => w3 (by omega)), fun w3 => ⟨h.1.1.1, h.lk (kI_i ?_)⟩⟩
      rw [show (76 : Int32) = i32 76 by decide, i32_eq (by omega) (by omega) (by omega) (by omega)]
      refine ⟨fun w4 => i236 (by omega) (.inl w4), fun w4 => ⟨h.1.1.1, h.lk (kI_i ?_)⟩⟩
      rw [q_35, i32_eq (by omega) (by omega) (by omega) (by omega)]
      exact ⟨fun w5 => i247 (fun c => w4 c.2) (fun c => w5 c.2), fun w5 => i236 (by omega) (.inr w5)⟩
    refine ⟨fun w1 => ⟨fun w2 => i213 w1 (fun c => by omega), fun w2 => ⟨h.1.1.1, h.lk (kI_i ?_)⟩⟩, fun w1 => ?_⟩
    · rw [show (87 : Int32) = i32 87 by decide, i32_eq (by omega) (by omega) (by omega) (by omega)]
      refine ⟨fun w3 => i213 w1 (fun c => w3 c.2), fun w3 => ⟨h.1.1.1, fun M14 e14 => ?_⟩⟩
      rw [if_neg w1, if_pos ⟨by omega, w3⟩] at hO
      have hl := hn.lt (i := at_) (by omega)
      have hp := h.adv hl
      rw [← e14] at hp
      refine ⟨eA e, hp.1.1.2.2.1, hp.1.2.2.2.1.2.1, fun M17 e17 => ?_⟩
      subst e17
      exact hO (at_ + 1) _ rfl _ (hp.ne8 _)
    · rw [if_pos w1] at hO hF
      have i160 : ¬ (f = 4 ∧ v < 7) → V_X4_readItem_160 K M (i32 (f : Nat)) (eT e) (i32 (f : Nat)) (i32 v) := by
        intro w2
        rw [if_neg w2] at hO hF
        unfold V_X4_readItem_160 V_X4_readItem_165 V_X4_readItem_258
        refine ⟨i32_in (by omega) (by omega) (by omega), h.1.1.1, ?_⟩
        rw [i32_clamp (by omega) (by omega), Int.toNat_natCast, tb_i.2 f (by omega)]
        exact s_str hf (by omega) hadd (by omega) (fun q => by have := htl5 q; omega) h (fun a1 c' e1 M' hp => kV_i (hO a1 c' e1 M' hp)) (fun co pl e1 M' hp => kV_i (hF co pl e1 M' hp))
      refine ⟨fun w2 => i160 (fun c => by omega), fun w2 => ⟨fun w3 => i160 (fun c => by omega), fun w3 => ?_⟩⟩
      rw [if_pos ⟨by omega, by omega⟩] at hO hF
      unfold V_X4_readItem_165 V_X4_readItem_258
      refine ⟨h.1.1.1, ?_⟩
      exact s_str hf (by omega) (by omega) (by omega) (by omega) h (fun a1 c' e1 M' hp => kV_i (hO a1 c' e1 M' hp)) (fun co pl e1 M' hp => kV_i (hF co pl e1 M' hp))
  · rw [if_pos q1] at hO hF
    have hl := hn.lt (i := at_) (by omega)
    have hp := h.adv hl
    rw [← e19] at hp
    rw [hp.2.2.1] at e20
    subst e20
    unfold V_X4_readItem_121 V_X4_readItem_258
    refine s_val hf hp (fun a1 w e1 M' hp' => kI_i ?_) (fun co pl e1 M' w hp' => kI_i ?_)
    · have hb := pVal_at hn hf (by omega) e1
      rw [i32_le (by omega) (by omega) (by omega) (by omega)]
      refine ⟨fun w2 => ⟨hp'.1.1.1, ?_⟩, fun w2 => ⟨hp'.1.1.1, ?_⟩⟩
      · rw [e1] at hO hF
        simp only [pBn, if_neg (show ¬ w < v by omega)] at hO hF
        exact s_str hf (by omega) (fun q => by have := hadd q; omega) (by omega) (fun q => by have := htl5 q; omega) hp' (fun a2 c' e2 M2 hp2 => kV_i (hO a2 c' e2 M2 hp2)) (fun co pl e2 M2 hp2 => kV_i (hF co pl e2 M2 hp2))
      · rw [e1] at hF
        simp only [pBn, if_pos (show w < v by omega)] at hF
        rw [show (3 : Int32) = i32 ((3 : Nat)) by decide]
        refine s_fail hp' (by omega) (fun M2 hp2 => kV_i ⟨hp2.1.1.1, s_strF hp2 (kV_i (hF 3 (at_ + 1) rfl M2 hp2))⟩)
    · rw [e1] at hF
      have fin := hF co pl rfl M' hp'
      exact ⟨fun _ => ⟨hp'.1.1.1, s_strF hp' (kV_i fin)⟩, fun _ => ⟨hp'.1.1.1, s_failF hp' (kV_i ⟨hp'.1.1.1, s_strF hp' (kV_i fin)⟩)⟩⟩
