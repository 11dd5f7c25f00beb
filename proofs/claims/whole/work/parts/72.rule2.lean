/-! what was read as a rule -/
def neT (c : Ct) (f : Nat) : Prop := ∃ i, bj (cNu c f) i = true
def bdT (c : Ct) : Prop := (∀ i, 60 ≤ i → bj (cNu c 0) i = false) ∧ (∀ i, 24 ≤ i → bj (cNu c 1) i = false)
def Pt (c c' : Ct) : Prop := (bdT c → bdT c') ∧ ∀ g, neT c g → neT c' g
def Qt (f : Nat) (c c' : Ct) : Prop := Pt c c' ∧ (f ≤ 1 → neT c' f)
theorem Pt.refl (c : Ct) : Pt c c := ⟨fun h => h, fun _ h => h⟩
theorem Pt.trans {c c1 c2 : Ct} (h : Pt c c1) (h' : Pt c1 c2) : Pt c c2 := ⟨fun q => h'.1 (h.1 q), fun g q => h'.2 g (h.2 g q)⟩
theorem Pt.same {c c' : Ct} (h : cNu c' = cNu c) : Pt c c' := by unfold Pt bdT neT; rw [h]; exact ⟨fun h => h, fun _ h => h⟩
theorem Qt.same {f : Nat} {c c' : Ct} (hf : 2 ≤ f) (h : cNu c' = cNu c) : Qt f c c' := ⟨Pt.same h, fun q => by omega⟩
theorem Qt.after {f : Nat} {c c1 c2 : Ct} (h : Qt f c c1) (h' : Pt c1 c2) : Qt f c c2 := ⟨h.1.trans h', fun q => h'.2 f (h.2 q)⟩
theorem Qt.of {f : Nat} {c c1 c2 : Ct} (h : Pt c c1) (h' : Qt f c1 c2) : Qt f c c2 := ⟨h.trans h'.1, h'.2⟩
theorem bj_bt {x : Int64} {v : Int} (hv : 0 ≤ v ∧ v < 64) (i : Nat) : bj (x ||| bt v) i = (bj x i || decide (i = v.toNat)) := by
  by_cases hi : i < 64
  · have := bj_sh1 (x := x) (v := v.toNat) (i := i) (by omega) hi
    rw [show ((v.toNat : Nat) : Int) = v by omega] at this
    exact this
  · rw [bj_big (by omega), bj_big (by omega), decide_eq_false (by omega)]; rfl
theorem ctN_q {c : Ct} {f : Nat} {v : Int} (hv : 0 ≤ v ∧ v < 64) (h0 : f = 0 → v ≤ 59) (h1 : f = 1 → v ≤ 23) : Qt f c (ctN c f v) := by
  have e : ∀ g i, bj (cNu (ctN c f v) g) i = (bj (cNu c g) i || (decide (g = f) && decide (i = v.toNat))) := fun g i => by
    show bj (va_up (cNu c) f (cNu c f ||| bt v) g) i = _
    by_cases q : g = f
    · subst q; rw [va_up_self, bj_bt hv, decide_eq_true rfl, Bool.true_and]
    · rw [va_up_ne _ _ q, decide_eq_false q, Bool.false_and, Bool.or_false]
  refine ⟨⟨fun hb => ⟨fun i hi => ?_, fun i hi => ?_⟩, fun g hg => ?_⟩, fun _ => ⟨v.toNat, ?_⟩⟩
  · rw [e, hb.1 i hi, Bool.false_or, Bool.and_eq_false_iff, decide_eq_false_iff_not, decide_eq_false_iff_not]
    by_cases q : 0 = f
    · right; have := h0 q.symm; omega
    · left; exact q
  · rw [e, hb.2 i hi, Bool.false_or, Bool.and_eq_false_iff, decide_eq_false_iff_not, decide_eq_false_iff_not]
    by_cases q : 1 = f
    · right; have := h1 q.symm; omega
    · left; exact q
  · obtain ⟨i, hi⟩ := hg
    exact ⟨i, by rw [e, hi]; rfl⟩
  · rw [e, decide_eq_true rfl, decide_eq_true rfl]; simp
theorem ctM_q {c : Ct} {f : Nat} {v : Int} (hf : f ≤ 5) (hv : tL f ≤ v ∧ v ≤ tG f) : Qt f c (ctM c f v) := by
  unfold ctM
  unfold tL tG at hv
  split
  · rename_i q; exact Qt.same (by omega) rfl
  · split
    · rename_i q; subst q
      have := ctN_q (c := c) (f := 4) (v := v % 7) (by omega) (by omega) (by omega)
      exact this
    · exact ctN_q (by omega) (by intro q; subst q; omega) (by intro q; subst q; omega)
theorem ctR_q {f : Nat} {st : Int} (hf : f ≤ 5) (hst : 0 ≤ st) : ∀ (k : Nat) (v : Int) (c : Ct), tL f ≤ v → v + k * st ≤ tG f → Qt f c (ctR f st (k + 1) v c)
  | 0, v, c, h1, h2 => ctM_q hf ⟨h1, by simp at h2; exact h2⟩
  | k + 1, v, c, h1, h2 => by
    have e : v + ((k + 1 : Nat) : Int) * st = v + st + k * st := by rw [Int.natCast_add, Int.add_mul]; simp; omega
    rw [e] at h2
    have hk : 0 ≤ (k : Int) * st := Int.mul_nonneg (by omega) hst
    have h3 := ctR_q hf hst k (v + st) (ctM c f v) (by omega) h2
    exact Qt.of (ctM_q hf ⟨h1, by omega⟩).1 h3
theorem ctA_q {c : Ct} {f : Nat} {lo hi st : Int} (hf : f ≤ 5) (hst : 1 ≤ st) (h1 : tL f ≤ lo) (h2 : lo ≤ hi) (h3 : hi ≤ tG f) : Qt f c (ctA c f lo hi st) := by
  unfold ctA
  have hd : 0 ≤ (hi - lo) / st := Int.ediv_nonneg (by omega) (by omega)
  have hm : (hi - lo) / st * st ≤ hi - lo := Int.ediv_mul_le _ (by omega)
  rw [show ((hi - lo) / st + 1).toNat = ((hi - lo) / st).toNat + 1 by omega]
  refine ctR_q hf (by omega) _ lo c h1 ?_
  rw [show (((hi - lo) / st).toNat : Int) = (hi - lo) / st by omega]
  omega
theorem pAft_q {s : Nat → Int} {n f at_ a1 : Nat} {v : Int} {c c' : Ct} (h : isS s n) (hf : f ≤ 5) (ha : at_ ≤ n) (hv : tL f ≤ v ∧ v ≤ tG f) (e : pAft s f at_ v c = .inr (a1, c')) : Qt f c c' := by
  unfold pAft at e
  split at e
  · rename_i q
    have hl := h.lt (i := at_) (by omega)
    obtain ⟨a0, w, e1, e2⟩ := pBn_r e
    have v1 := pVal_at h hf (by omega) e1
    split at e2
    · exact absurd e2 (by simp)
    · rename_i hw
      obtain ⟨a2, st, e3, e4⟩ := pBn_r e2
      have v2 := pStep_at h (by omega) e3
      have q1 := congrArg Prod.snd (Sum.inr.inj e4)
      simp only at q1
      rw [← q1]
      exact ctA_q hf (by omega) hv.1 (by omega) (by omega)
  · split at e
    · obtain ⟨a2, st, e3, e4⟩ := pBn_r e
      have v2 := pStep_at h (by omega) e3
      have q1 := congrArg Prod.snd (Sum.inr.inj e4)
      simp only at q1
      rw [← q1]
      split
      · rename_i q; obtain ⟨qa, qb⟩ := q; subst qa
        exact ctA_q (by decide) (by omega) hv.1 (by omega) (by decide)
      · exact ctA_q hf (by omega) hv.1 hv.2 (Int.le_refl _)
    · split at e
      · rename_i q
        have q1 := congrArg Prod.snd (Sum.inr.inj e)
        simp only at q1
        rw [← q1]
        exact Qt.same (by omega) rfl
      · split at e
        · rename_i q
          have q1 := congrArg Prod.snd (Sum.inr.inj e)
          simp only at q1
          rw [← q1]
          exact Qt.same (by omega) rfl
        · split at e
          · rename_i q
            obtain ⟨a0, k, e1, e2⟩ := pBn_r e
            have q1 := congrArg Prod.snd (Sum.inr.inj e2)
            simp only at q1
            rw [← q1]
            exact Qt.same (by omega) rfl
          · have q1 := congrArg Prod.snd (Sum.inr.inj e)
            simp only at q1
            rw [← q1]
            exact ctM_q hf hv
theorem pItem_q {s : Nat → Int} {n f at_ a1 : Nat} {c c' : Ct} (h : isS s n) (hf : f ≤ 5) (ha : at_ ≤ n) (e : pItem s f at_ c = .inr (a1, c')) : Qt f c c' := by
  unfold pItem at e
  split at e
  · rename_i q
    have hl := h.lt (i := at_) (by omega)
    obtain ⟨a2, st, e3, e4⟩ := pBn_r e
    have v2 := pStep_at h (by omega) e3
    have q1 := congrArg Prod.snd (Sum.inr.inj e4)
    simp only at q1
    rw [← q1]
    exact ctA_q hf (by omega) (Int.le_refl _) (tLG hf).2.1 (Int.le_refl _)
  · split at e
    · rename_i q
      unfold pLast at e
      split at e
      · have q1 := congrArg Prod.snd (Sum.inr.inj e)
        simp only at q1
        rw [← q1]
        exact Qt.same (by omega) rfl
      · split at e
        · obtain ⟨a0, k, e1, e2⟩ := pBn_r e
          have q1 := congrArg Prod.snd (Sum.inr.inj e2)
          simp only at q1
          rw [← q1]
          exact Qt.same (by omega) rfl
        · have q1 := congrArg Prod.snd (Sum.inr.inj e)
          simp only at q1
          rw [← q1]
          exact Qt.same (by omega) rfl
    · obtain ⟨a0, v, e1, e2⟩ := pBn_r e
      have v1 := pVal_at h hf ha e1
      exact pAft_q h hf (by omega) v1.2.2 e2
theorem pMore_q {s : Nat → Int} {n f : Nat} (h : isS s n) (hf : f ≤ 5) : ∀ (k at_ a1 : Nat) (c c' : Ct), at_ ≤ n → pMore s f k at_ c = .inr (a1, c') → Pt c c'
  | 0, at_, a1, c, c', ha, e => by
    have q1 := congrArg Prod.snd (Sum.inr.inj e)
    simp only at q1
    rw [← q1]; exact Pt.refl c
  | k + 1, at_, a1, c, c', ha, e => by
    unfold pMore at e
    split at e
    · rename_i q
      have hl := h.lt (i := at_) (by omega)
      obtain ⟨a0, c1, e1, e2⟩ := pBn_r e
      have v1 := pItem_at h hf (by omega) e1
      exact (pItem_q h hf (by omega) e1).1.trans (pMore_q h hf k a0 a1 c1 c' (by omega) e2)
    · have q1 := congrArg Prod.snd (Sum.inr.inj e)
      simp only at q1
      rw [← q1]; exact Pt.refl c
theorem pField_q {s : Nat → Int} {n f at_ a1 : Nat} {c c' : Ct} (h : isS s n) (hf : f ≤ 5) (ha : at_ ≤ n) (e : pField s f at_ c = .inr (a1, c')) : Qt f c c' := by
  unfold pField at e
  obtain ⟨a0, c1, e1, e2⟩ := pBn_r e
  have v1 := pItem_at h hf ha e1
  exact Qt.of (Pt.same (c' := ctS c f (decide (s at_ = 42))) rfl) ((pItem_q h hf ha e1).after (pMore_q h hf _ _ _ _ _ (by omega) e2))
theorem pFlds_q {s : Nat → Int} {n : Nat} (h : isS s n) : ∀ (k f at_ a1 : Nat) (c c' : Ct), f + k = 5 → at_ ≤ n → pFlds s k f at_ c = .inr (a1, c') → Pt c c' ∧ (f = 1 → neT c' 1)
  | 0, f, at_, a1, c, c', hk, ha, e => by
    refine ⟨?_, fun q => by omega⟩
    unfold pFlds at e
    split at e
    · split at e
      · have q1 := congrArg Prod.snd (Sum.inr.inj e)
        simp only at q1
        rw [← q1]; exact Pt.refl c
      · exact (pField_q h (by omega) (skp_at h _ at_ ha).2.1 e).1
    · have q1 := congrArg Prod.snd (Sum.inr.inj e)
      simp only at q1
      rw [← q1]; exact Pt.refl c
  | k + 1, f, at_, a1, c, c', hk, ha, e => by
    unfold pFlds at e
    split at e
    · obtain ⟨a0, c1, e1, e2⟩ := pBn_r e
      have v0 := pField_at h (by omega) (skp_at h _ at_ ha).2.1 e1
      have v1 := pField_q h (by omega) (skp_at h _ at_ ha).2.1 e1
      have v2 := pFlds_q h k (f + 1) a0 a1 c1 c' (by omega) v0.2 e2
      exact ⟨v1.1.trans v2.1, fun q => v2.1.2 1 (by subst q; exact v1.2 (by decide))⟩
    · exact absurd e (by simp)
theorem ct0_bd : bdT ct0 := ⟨fun i _ => bj_0 i, fun i _ => bj_0 i⟩
theorem ctW_q (l : Int) (c : Ct) : Pt c (ctW l c) ∧ neT (ctW l c) 0 ∧ neT (ctW l c) 1 := by
  have a1 := ctA_q (c := c) (f := 0) (lo := 0) (hi := 0) (st := 1) (by decide) (by decide) (by decide) (by decide) (by decide)
  generalize e1 : ctA c 0 0 0 1 = c1 at a1
  have a2 := ctA_q (c := c1) (f := 1) (lo := 0) (hi := if l = 104 then 23 else 0) (st := 1) (by decide) (by decide) (by decide) (by split <;> decide) (by split <;> decide)
  generalize e2 : ctA c1 1 0 (if l = 104 then 23 else 0) 1 = c2 at a2
  have a3 : Pt c2 (ctS c2 2 (decide (¬ (l = 109 ∨ l = 121)))) := Pt.same rfl
  generalize e3 : ctS c2 2 (decide (¬ (l = 109 ∨ l = 121))) = c3 at a3
  have a4 := ctA_q (c := c3) (f := 2) (lo := 1) (hi := if l = 109 ∨ l = 121 then 1 else 31) (st := 1) (by decide) (by decide) (by decide) (by split <;> decide) (by split <;> decide)
  generalize e4 : ctA c3 2 1 (if l = 109 ∨ l = 121 then 1 else 31) 1 = c4 at a4
  have a5 := ctA_q (c := c4) (f := 3) (lo := 1) (hi := if l = 121 then 1 else 12) (st := 1) (by decide) (by decide) (by decide) (by split <;> decide) (by split <;> decide)
  generalize e5 : ctA c4 3 1 (if l = 121 then 1 else 12) 1 = c5 at a5
  have a6 : Pt c5 (ctS c5 4 (decide (¬ l = 119))) := Pt.same rfl
  generalize e6 : ctS c5 4 (decide (¬ l = 119)) = c6 at a6
  have a7 := ctA_q (c := c6) (f := 4) (lo := 0) (hi := if l = 119 then 0 else 6) (st := 1) (by decide) (by decide) (by decide) (by split <;> decide) (by split <;> decide)
  have e : ctW l c = ctA c6 4 0 (if l = 119 then 0 else 6) 1 := by
    unfold ctW
    rw [e1, e2, e3, e4, e5, e6]
  rw [e]
  have t := ((a3.trans a4.1).trans a5.1).trans (a6.trans a7.1)
  exact ⟨(a1.1.trans a2.1).trans t, (a2.1.trans t).2 0 (a1.2 (by decide)), t.2 1 (a2.2 (by decide))⟩
theorem pFin_c {s : Nat → Int} {n at_ a1 : Nat} {c c' : Ct} (e : pFin s n at_ c = .inr (a1, c')) : c' = c := by
  unfold pFin at e
  split at e
  · exact absurd e (by simp)
  · have q1 := congrArg Prod.snd (Sum.inr.inj e)
    simp only at q1
    exact q1.symm
theorem pText_q {s : Nat → Int} {n a1 : Nat} {c : Ct} (h : isS s n) (e : pText s n = .inr (a1, c)) : bdT c ∧ neT c 0 ∧ neT c 1 := by
  unfold pText at e
  have h0 := skp_at h 161 0 (Nat.zero_le _)
  split at e
  · obtain ⟨a0, c1, e1, e2⟩ := pBn_r e
    unfold pWord at e1
    obtain ⟨a2, u, e3, e4⟩ := pBn_r e1
    have q1 := congrArg Prod.snd (Sum.inr.inj e4)
    simp only at q1
    have := ctW_q (s (skp s 161 0 + 1)) ct0
    rw [q1] at this
    rw [pFin_c e2]
    exact ⟨this.1.1 ct0_bd, this.2⟩
  · obtain ⟨a0, c1, e1, e2⟩ := pBn_r e
    obtain ⟨a2, c2, e3, e4⟩ := pBn_r e2
    have v0 := pField_at h (by decide) h0.2.1 e1
    have v1 := pField_q h (by decide) h0.2.1 e1
    have v2 := pFlds_q h 4 1 a0 a2 c1 c2 (by decide) v0.2 e3
    rw [pFin_c e4]
    exact ⟨v2.1.1 (v1.1.1 ct0_bd), v2.1.2 0 (v1.2 (by decide)), v2.2 rfl⟩
def ruOf (c : Ct) : Ru := (cNu c, fun y => !cTo c || (decide (1900 ≤ y ∧ y ≤ 2199) && cYr c (y - 1900).toNat), cDs c, cWs c, cBl c, cLw c, cNe c, cLd c, cKw c)
theorem ruOf_wf {s : Nat → Int} {n a1 : Nat} {c : Ct} (h : isS s n) (e : pText s n = .inr (a1, c)) : wfT (ruOf c) := by
  have := pText_q h e
  exact ⟨this.1.1, this.1.2, this.2.1, this.2.2⟩
theorem CtC.ru {ri : Nat → Int32} {rj nj yj : Nat → Int64} {c : Ct} (h : CtC ri rj nj yj c) : RuV ri rj nj yj (ruOf c) ∧ Kn (ruOf c) ri := by
  obtain ⟨h1, h2, h3, h4, h5, h6, h7, h8, h9, h10, h11⟩ := h
  refine ⟨⟨h1, ⟨cTo c, h3, fun y y1 y2 => ?_⟩, h4, h5, h6, h7, h8, h9, h10⟩, fun n n1 n2 hn => ?_⟩
  · show (!cTo c || (decide (1900 ≤ y ∧ y ≤ 2199) && cYr c (y - 1900).toNat)) = _
    by_cases q : 1900 ≤ y ∧ y ≤ 2199
    · rw [decide_eq_true q, Bool.true_and, Bool.true_and, ← h2 (y - 1900).toNat (by omega), show (y - 1900).toNat / 64 = ((y - 1900) / 64).toNat by omega, show (y - 1900).toNat % 64 = ((y - 1900) % 64).toNat by omega]
    · rw [decide_eq_false q, Bool.false_and, Bool.false_and]
  · rw [h11, i32_eq (by omega) (by omega) (by omega) (by omega)] at hn
    omega
theorem isB_ex (r : Ru) : ∃ b, isB r b := ⟨fun n => @decide (rt r n) (Classical.propDecidable _), fun n _ _ => ⟨fun h => @of_decide_eq_true _ (Classical.propDecidable _) h, fun h => @decide_eq_true _ (Classical.propDecidable _) h⟩⟩
