/-! what is made at the start -/
abbrev Oj : Type := Nat × Nat × List (Nat × Nat) × List (Nat × Int32)
def boj (am : List Oj) (j : Nat) : Oj := am.getD j (0, 0, [], [])
def bkd (am : List Oj) (j : Nat) : Nat := (boj am j).1
def bln (am : List Oj) (j : Nat) : Nat := (boj am j).2.1
def bpt (am : List Oj) (j : Nat) : List (Nat × Nat) := (boj am j).2.2.1
def bit (am : List Oj) (j : Nat) : List (Nat × Int32) := (boj am j).2.2.2
def blu {β : Type} : List (Nat × β) → Nat → Option β
  | [], _ => none
  | q :: t, p => if p = q.1 then some q.2 else blu t p
def bnw (am : List Oj) (c n : Nat) : List Oj := am ++ [(c, n, [], [])]
def bsp (am : List Oj) (j p q : Nat) : List Oj := am.set j (bkd am j, bln am j, (p, q) :: bpt am j, bit am j)
def bsi (am : List Oj) (j p : Nat) (v : Int32) : List Oj := am.set j (bkd am j, bln am j, bpt am j, (p, v) :: bit am j)
theorem bnw_l (am : List Oj) (c n : Nat) : (bnw am c n).length = am.length + 1 := by unfold bnw; rw [List.length_append]; rfl
theorem bsp_l (am : List Oj) (j p q : Nat) : (bsp am j p q).length = am.length := by unfold bsp; rw [List.length_set]
theorem bsi_l (am : List Oj) (j p : Nat) (v : Int32) : (bsi am j p v).length = am.length := by unfold bsi; rw [List.length_set]
theorem boj_n {am : List Oj} {j : Nat} (c n : Nat) (h : j < am.length) : boj (bnw am c n) j = boj am j := by
  unfold boj bnw; rw [List.getD_eq_getElem?_getD, List.getD_eq_getElem?_getD, List.getElem?_append_left h]
theorem boj_w (am : List Oj) (c n : Nat) : boj (bnw am c n) am.length = (c, n, [], []) := by
  unfold boj bnw; rw [List.getD_eq_getElem?_getD, List.getElem?_append_right (Nat.le_refl _), Nat.sub_self]; rfl
theorem boj_s {am : List Oj} {j : Nat} (i : Nat) (o : Oj) (h : j < am.length) : boj (am.set j o) i = if i = j then o else boj am i := by
  unfold boj; rw [List.getD_eq_getElem?_getD, List.getD_eq_getElem?_getD, List.getElem?_set]
  by_cases q : i = j
  · subst q; rw [if_pos rfl, if_pos h, if_pos rfl]; rfl
  · rw [if_neg (fun c => q c.symm), if_neg q]
theorem bkd_n {am : List Oj} {j : Nat} (c n : Nat) (h : j < am.length) : bkd (bnw am c n) j = bkd am j := by unfold bkd; rw [boj_n c n h]
theorem bkd_w (am : List Oj) (c n : Nat) : bkd (bnw am c n) am.length = c := by unfold bkd; rw [boj_w]
theorem bkd_p {am : List Oj} {j : Nat} (p q i : Nat) (h : j < am.length) : bkd (bsp am j p q) i = bkd am i := by
  unfold bkd bsp; rw [boj_s i _ h]
  by_cases c : i = j
  · rw [if_pos c, c]; rfl
  · rw [if_neg c]
theorem bkd_i {am : List Oj} {j : Nat} (p : Nat) (v : Int32) (i : Nat) (h : j < am.length) : bkd (bsi am j p v) i = bkd am i := by
  unfold bkd bsi; rw [boj_s i _ h]
  by_cases c : i = j
  · rw [if_pos c, c]; rfl
  · rw [if_neg c]
def adM (M : Mm) (j : Nat) : Nat := (mL M).getD j 0
theorem adM_in {M : Mm} {j : Nat} (h : j < (mL M).length) : adM M j ∈ mL M := by
  unfold adM; rw [List.getD_eq_getElem?_getD, List.getElem?_eq_getElem h]; exact List.getElem_mem h
theorem adM_inj {M : Mm} {i j : Nat} (h : (mL M).Nodup) (hi : i < (mL M).length) (hj : j < (mL M).length) (e : adM M i = adM M j) : i = j := by
  unfold adM at e
  rw [List.getD_eq_getElem?_getD, List.getD_eq_getElem?_getD, List.getElem?_eq_getElem hi, List.getElem?_eq_getElem hj] at e
  have e' : (mL M)[i] = (mL M)[j] := e
  rcases Nat.lt_trichotomy i j with c | c | c
  · exact absurd e' (List.pairwise_iff_getElem.mp h i j hi hj c)
  · exact c
  · exact absurd e'.symm (List.pairwise_iff_getElem.mp h j i hj hi c)
def Rep (M : Mm) (am : List Oj) : Prop := (mL M).Nodup ∧ (mL M).length = am.length ∧ ∀ j, j < am.length → mK M (adM M j) = bkd am j ∧ mN M (adM M j) = bln am j ∧ (∀ p, mP M (adM M j) p = (blu (bpt am j) p).map (adM M)) ∧ (∀ p, mI M (adM M j) p = (blu (bit am j) p).getD 0) ∧ (∀ p, mJ M (adM M j) p = 0) ∧ (∀ p q, blu (bpt am j) p = some q → q < am.length)
/-- the addresses of before stay the first ones -/
def Pf (M M' : Mm) : Prop := (mL M).length ≤ (mL M').length ∧ ∀ j, j < (mL M).length → adM M' j = adM M j
theorem Pf.refl (M : Mm) : Pf M M := ⟨Nat.le_refl _, fun _ _ => rfl⟩
theorem Pf.trans {M M1 M2 : Mm} (h : Pf M M1) (h' : Pf M1 M2) : Pf M M2 := ⟨Nat.le_trans h.1 h'.1, fun j hj => (h'.2 j (Nat.lt_of_lt_of_le hj h.1)).trans (h.2 j hj)⟩
/-- a is the j-th address -/
def Nm (M : Mm) (a j : Nat) : Prop := j < (mL M).length ∧ adM M j = a
theorem Nm.pf {M M' : Mm} {a j : Nat} (h : Nm M a j) (f : Pf M M') : Nm M' a j := ⟨Nat.lt_of_lt_of_le h.1 f.1, (f.2 j h.1).trans h.2⟩
theorem Rep.lt {M : Mm} {am : List Oj} {a j : Nat} (R : Rep M am) (h : Nm M a j) : j < am.length := by rw [← R.2.1]; exact h.1
theorem Rep.ob {M : Mm} {am : List Oj} {a j c : Nat} (R : Rep M am) (h : Nm M a j) (hc : bkd am j = c) : ob M a c := by
  rw [← h.2]
  exact ⟨adM_in h.1, ((R.2.2 j (R.lt h)).1).trans hc⟩
theorem Rep.new {M M' : Mm} {am : List Oj} {w c n : Nat} (R : Rep M am) (h : w ∉ mL M) (e : M' = nO M w c n) : Rep M' (bnw am c n) ∧ Nm M' w am.length ∧ Pf M M' := by
  have eL : mL M' = mL M ++ [w] := by rw [e]; rfl
  have a1 : ∀ j, j < am.length → adM M' j = adM M j := fun j hj => by
    unfold adM; rw [eL, List.getD_eq_getElem?_getD, List.getD_eq_getElem?_getD, List.getElem?_append_left (by rw [R.2.1]; exact hj)]
  have a2 : adM M' am.length = w := by
    unfold adM; rw [eL, List.getD_eq_getElem?_getD, List.getElem?_append_right (by rw [R.2.1]; exact Nat.le_refl _), R.2.1, Nat.sub_self]; rfl
  have len : (mL M').length = am.length + 1 := by rw [eL, List.length_append, R.2.1]; rfl
  have ne : ∀ j, j < am.length → adM M j ≠ w := fun j hj q => h (q ▸ adM_in (by rw [R.2.1]; exact hj))
  refine ⟨⟨?_, by rw [len, bnw_l], fun j hj => ?_⟩, ⟨by rw [len]; omega, a2⟩, by rw [len, R.2.1]; omega, fun j hj => a1 j (by rw [← R.2.1]; exact hj)⟩
  · rw [eL]
    refine List.pairwise_append.mpr ⟨R.1, List.pairwise_singleton _ _, fun a ha b hb => ?_⟩
    rw [List.mem_singleton] at hb
    exact fun q => h (by rw [← hb, ← q]; exact ha)
  · rw [bnw_l] at hj
    by_cases q : j = am.length
    · subst q
      rw [a2]
      unfold bkd bln bpt bit
      rw [boj_w, e]
      refine ⟨va_up_self _ _ _, va_up_self _ _ _, fun p => ?_, fun p => ?_, fun p => ?_, fun p q hq => (by cases hq)⟩
      · show va_up (mP M) w (fun _ => none) w p = none; rw [va_up_self]
      · show va_up (mI M) w (fun _ => 0) w p = 0; rw [va_up_self]
      · show va_up (mJ M) w (fun _ => 0) w p = 0; rw [va_up_self]
    · have hj' : j < am.length := by omega
      obtain ⟨r1, r2, r3, r4, r5, r6⟩ := R.2.2 j hj'
      rw [a1 j hj', bnw_l]
      unfold bkd bln bpt bit at *
      rw [boj_n c n hj']
      refine ⟨?_, ?_, fun p => ?_, fun p => ?_, fun p => ?_, fun p q hq => Nat.lt_succ_of_lt (r6 p q hq)⟩
      · rw [e]; exact (va_up_ne _ _ (ne j hj')).trans r1
      · rw [e]; exact (va_up_ne _ _ (ne j hj')).trans r2
      · have : mP M' (adM M j) = mP M (adM M j) := by rw [e]; exact va_up_ne _ _ (ne j hj')
        rw [this, r3 p]
        cases hq : blu (boj am j).2.2.1 p with
        | none => rfl
        | some q => show some _ = some _; rw [a1 q (r6 p q hq)]
      · have : mI M' (adM M j) = mI M (adM M j) := by rw [e]; exact va_up_ne _ _ (ne j hj')
        rw [this]; exact r4 p
      · have : mJ M' (adM M j) = mJ M (adM M j) := by rw [e]; exact va_up_ne _ _ (ne j hj')
        rw [this]; exact r5 p
theorem Rep.sp {M M' : Mm} {am : List Oj} {a b j q p : Nat} (R : Rep M am) (ha : Nm M a j) (hb : Nm M b q) (e : M' = sP M a p (some b)) : Rep M' (bsp am j p q) ∧ Pf M M' := by
  have hj := R.lt ha
  have hq := R.lt hb
  have eA : adM M' = adM M := by rw [e]; rfl
  have eL : mL M' = mL M := by rw [e]; rfl
  refine ⟨⟨by rw [eL]; exact R.1, by rw [eL, bsp_l]; exact R.2.1, fun i hi => ?_⟩, by rw [eL]; exact Nat.le_refl _, fun i _ => by rw [eA]⟩
  rw [bsp_l] at hi
  obtain ⟨r1, r2, r3, r4, r5, r6⟩ := R.2.2 i hi
  rw [eA, bsp_l]
  unfold bkd bln bpt bit at *
  unfold bsp bkd bln bpt bit
  rw [boj_s i _ hj]
  by_cases c : i = j
  · subst c
    rw [if_pos rfl]
    have hm : mP M' (adM M i) = va_up (mP M (adM M i)) p (some b) := by rw [e, ← ha.2, sP_w, mP_w]
    refine ⟨by rw [e]; exact r1, by rw [e]; exact r2, fun p' => ?_, fun p' => by rw [e]; exact r4 p', fun p' => by rw [e]; exact r5 p', fun p' q' h => ?_⟩
    · rw [hm]
      show _ = (if p' = p then some q else blu (boj am i).2.2.1 p').map (adM M)
      by_cases d : p' = p
      · rw [if_pos d, d, va_up_self, ← hb.2]; rfl
      · rw [if_neg d, va_up_ne _ _ d]; exact r3 p'
    · have h' : (if p' = p then some q else blu (boj am i).2.2.1 p') = some q' := h
      by_cases d : p' = p
      · rw [if_pos d] at h'; cases h'; exact hq
      · rw [if_neg d] at h'; exact r6 p' q' h'
  · rw [if_neg c]
    have hne : adM M i ≠ a := fun d => c (adM_inj R.1 (by rw [R.2.1]; exact hi) ha.1 (d.trans ha.2.symm))
    refine ⟨by rw [e]; exact r1, by rw [e]; exact r2, fun p' => ?_, fun p' => by rw [e]; exact r4 p', fun p' => by rw [e]; exact r5 p', r6⟩
    rw [e, sP_w, mP_wn _ _ hne]; exact r3 p'
theorem Rep.si {M M' : Mm} {am : List Oj} {a j p : Nat} {v : Int32} (R : Rep M am) (ha : Nm M a j) (e : M' = sI M a p v) : Rep M' (bsi am j p v) ∧ Pf M M' := by
  have hj := R.lt ha
  have eA : adM M' = adM M := by rw [e]; rfl
  have eL : mL M' = mL M := by rw [e]; rfl
  refine ⟨⟨by rw [eL]; exact R.1, by rw [eL, bsi_l]; exact R.2.1, fun i hi => ?_⟩, by rw [eL]; exact Nat.le_refl _, fun i _ => by rw [eA]⟩
  rw [bsi_l] at hi
  obtain ⟨r1, r2, r3, r4, r5, r6⟩ := R.2.2 i hi
  rw [eA, bsi_l]
  unfold bkd bln bpt bit at *
  unfold bsi bkd bln bpt bit
  rw [boj_s i _ hj]
  by_cases c : i = j
  · subst c
    rw [if_pos rfl]
    have hm : mI M' (adM M i) = va_up (mI M (adM M i)) p v := by rw [e, ← ha.2, sI_w, mI_w]
    refine ⟨by rw [e]; exact r1, by rw [e]; exact r2, fun p' => by rw [e]; exact r3 p', fun p' => ?_, fun p' => by rw [e]; exact r5 p', r6⟩
    rw [hm]
    show _ = (if p' = p then some v else blu (boj am i).2.2.2 p').getD 0
    by_cases d : p' = p
    · rw [if_pos d, d, va_up_self]; rfl
    · rw [if_neg d, va_up_ne _ _ d]; exact r4 p'
  · rw [if_neg c]
    have hne : adM M i ≠ a := fun d => c (adM_inj R.1 (by rw [R.2.1]; exact hi) ha.1 (d.trans ha.2.symm))
    refine ⟨by rw [e]; exact r1, by rw [e]; exact r2, fun p' => by rw [e]; exact r3 p', fun p' => ?_, fun p' => by rw [e]; exact r5 p', r6⟩
    rw [e, sI_w, mI_wn _ _ hne]; exact r4 p'
/-- a Zone -/
def bX5 (am : List Oj) (j : Nat) : List Oj := bsp (bnw (bsp (bnw am 9 21) j 0 am.length) 9 21) j 1 (am.length + 1)
theorem s_x5 {K : Rs → Mm → Prop} {M : Mm} {am : List Oj} {a j : Nat} (R : Rep M am) (ha : Nm M a j) (hk : bkd am j = 5) (h : ∀ M', Rep M' (bX5 am j) → Pf M M' → K (.inl none) M') : V_X5_init K M a := by
  have hj := R.lt ha
  unfold V_X5_init
  intro w1 h1 M1 e1
  obtain ⟨R1, n1, f1⟩ := R.new h1 e1
  refine ⟨R1.ob (ha.pf f1) (by rw [bkd_n _ _ hj]; exact hk), fun M2 e2 w2 h2 M3 e3 M4 e4 => ?_⟩
  obtain ⟨R2, f2⟩ := R1.sp (ha.pf f1) n1 e2
  obtain ⟨R3, n3, f3⟩ := R2.new h2 e3
  rw [bsp_l, bnw_l] at n3
  obtain ⟨R4, f4⟩ := R3.sp (ha.pf (f1.trans (f2.trans f3))) n3 e4
  exact h M4 R4 (f1.trans (f2.trans (f3.trans f4)))
/-- a Rule -/
def bX3 (am : List Oj) (j : Nat) : List Oj := bsp (bnw (bsp (bnw (bsp (bnw am 0 0) j 0 am.length) 10 5) j 1 (am.length + 1)) 10 5) j 2 (am.length + 2)
theorem s_x3 {K : Rs → Mm → Prop} {M : Mm} {am : List Oj} {a j : Nat} (R : Rep M am) (ha : Nm M a j) (hk : bkd am j = 3) (h : ∀ M', Rep M' (bX3 am j) → Pf M M' → K (.inl none) M') : V_X3_init K M a := by
  have hj := R.lt ha
  unfold V_X3_init
  intro w1 h1 M1 e1
  obtain ⟨R1, n1, f1⟩ := R.new h1 e1
  unfold V_X0_init
  refine kV_i ⟨R1.ob (ha.pf f1) (by rw [bkd_n _ _ hj]; exact hk), fun M2 e2 w2 h2 M3 e3 M4 e4 w3 h3 M5 e5 M6 e6 => ?_⟩
  obtain ⟨R2, f2⟩ := R1.sp (ha.pf f1) n1 e2
  have g2 := f1.trans f2
  obtain ⟨R3, n3, f3⟩ := R2.new h2 e3
  rw [bsp_l, bnw_l] at n3
  have g3 := g2.trans f3
  obtain ⟨R4, f4⟩ := R3.sp (ha.pf g3) n3 e4
  have g4 := g3.trans f4
  obtain ⟨R5, n5, f5⟩ := R4.new h3 e5
  rw [bsp_l, bnw_l, bsp_l, bnw_l] at n5
  have g5 := g4.trans f5
  obtain ⟨R6, f6⟩ := R5.sp (ha.pf g5) n5 e6
  exact h M6 R6 (g5.trans f6)
theorem bX5_l (am : List Oj) (j : Nat) : (bX5 am j).length = am.length + 2 := by unfold bX5; rw [bsp_l, bnw_l, bsp_l, bnw_l]
theorem bX3_l (am : List Oj) (j : Nat) : (bX3 am j).length = am.length + 3 := by unfold bX3; rw [bsp_l, bnw_l, bsp_l, bnw_l, bsp_l, bnw_l]
theorem bX5_k {am : List Oj} {j i : Nat} (hj : j < am.length) (hi : i < am.length) : bkd (bX5 am j) i = bkd am i := by
  unfold bX5
  rw [bkd_p _ _ _ (by rw [bnw_l, bsp_l, bnw_l]; omega), bkd_n _ _ (by rw [bsp_l, bnw_l]; omega), bkd_p _ _ _ (by rw [bnw_l]; omega), bkd_n _ _ hi]
theorem bX3_k {am : List Oj} {j i : Nat} (hj : j < am.length) (hi : i < am.length) : bkd (bX3 am j) i = bkd am i := by
  unfold bX3
  rw [bkd_p _ _ _ (by rw [bnw_l, bsp_l, bnw_l, bsp_l, bnw_l]; omega), bkd_n _ _ (by rw [bsp_l, bnw_l, bsp_l, bnw_l]; omega), bkd_p _ _ _ (by rw [bnw_l, bsp_l, bnw_l]; omega), bkd_n _ _ (by rw [bsp_l, bnw_l]; omega), bkd_p _ _ _ (by rw [bnw_l]; omega), bkd_n _ _ hi]
/-- an Order -/
def bX2a (am : List Oj) (j : Nat) : List Oj := bsp (bX3 (bnw am 3 0) am.length) j 1 am.length
def bX2b (am : List Oj) (j p : Nat) : List Oj := bsp (bnw am 9 8) j p am.length
def bX2c (am : List Oj) (j : Nat) (v : Int32) : List Oj := bsi (bsp (bX5 (bnw am 5 0) am.length) j 5 am.length) j 0 v
def bX2 (am : List Oj) (j : Nat) (v : Int32) : List Oj := bX2c (bX2b (bX2b (bX2a am j) j 2) j 3) j v
theorem s_x2 {K : Rs → Mm → Prop} {M : Mm} {am : List Oj} {a j : Nat} {v : Int32} (R : Rep M am) (ha : Nm M a j) (hk : bkd am j = 2) (h : ∀ M', Rep M' (bX2 am j v) → Pf M M' → K (.inl none) M') : V_X2_init K M a v := by
  have hj := R.lt ha
  unfold V_X2_init
  intro w1 h1 M1 e1
  obtain ⟨R1, n1, f1⟩ := R.new h1 e1
  refine s_x3 R1 n1 (bkd_w am 3 0) (fun M2 R2 f2 => kV_i ⟨R2.ob (ha.pf (f1.trans f2)) ?_, fun M3 e3 w4 h4 M4 e4 M5 e5 w6 h6 M6 e6 M7 e7 w8 h8 M8 e8 => ?_⟩)
  · rw [bX3_k (by rw [bnw_l]; omega) (by rw [bnw_l]; omega), bkd_n _ _ hj]; exact hk
  have g2 := f1.trans f2
  obtain ⟨R3, f3⟩ := R2.sp (ha.pf g2) (n1.pf f2) e3
  have R3 : Rep M3 (bX2a am j) := R3
  have g3 := g2.trans f3
  have k3 : bkd (bX2a am j) j = 2 := by
    unfold bX2a
    rw [bkd_p _ _ _ (by rw [bX3_l, bnw_l]; omega), bX3_k (by rw [bnw_l]; omega) (by rw [bnw_l]; omega), bkd_n _ _ hj]; exact hk
  have j3 : j < (bX2a am j).length := R3.lt (ha.pf g3)
  have h : ∀ M', Rep M' (bX2c (bX2b (bX2b (bX2a am j) j 2) j 3) j v) → Pf M M' → K (.inl none) M' := h
  generalize bX2a am j = am3 at R3 k3 j3 h
  obtain ⟨R4, n4, f4⟩ := R3.new h4 e4
  have g4 := g3.trans f4
  obtain ⟨R5, f5⟩ := R4.sp (ha.pf g4) n4 e5
  have g5 := g4.trans f5
  have R5 : Rep M5 (bX2b am3 j 2) := R5
  have k5 : bkd (bX2b am3 j 2) j = 2 := by unfold bX2b; rw [bkd_p _ _ _ (by rw [bnw_l]; omega), bkd_n _ _ j3]; exact k3
  obtain ⟨R6, n6, f6⟩ := R5.new h6 e6
  have g6 := g5.trans f6
  obtain ⟨R7, f7⟩ := R6.sp (ha.pf g6) n6 e7
  have g7 := g6.trans f7
  have j5 : j < (bX2b am3 j 2).length := R5.lt (ha.pf g5)
  have R7 : Rep M7 (bX2b (bX2b am3 j 2) j 3) := R7
  have k7 : bkd (bX2b (bX2b am3 j 2) j 3) j = 2 := by unfold bX2b at k5 j5 ⊢; rw [bkd_p _ _ _ (by rw [bnw_l]; omega), bkd_n _ _ j5]; exact k5
  have j7 := R7.lt (ha.pf g7)
  generalize bX2b (bX2b am3 j 2) j 3 = am7 at R7 k7 j7 h
  obtain ⟨R8, n8, f8⟩ := R7.new h8 e8
  have g8 := g7.trans f8
  refine s_x5 R8 n8 (bkd_w am7 5 0) (fun M9 R9 f9 => kV_i ⟨R9.ob (ha.pf (g8.trans f9)) ?_, fun M10 e10 M11 e11 => ?_⟩)
  · rw [bX5_k (by rw [bnw_l]; omega) (by rw [bnw_l]; omega), bkd_n _ _ j7]; exact k7
  have g9 := g8.trans f9
  obtain ⟨R10, f10⟩ := R9.sp (ha.pf g9) (n8.pf f9) e10
  have g10 := g9.trans f10
  obtain ⟨R11, f11⟩ := R10.si (ha.pf g10) e11
  exact h M11 R11 (g10.trans f11)
/-- a Tape -/
def bX4a (am : List Oj) (j : Nat) : List Oj := bsp (bnw am 9 160) j 0 am.length
def bX4b (am : List Oj) (j : Nat) : List Oj := bsp (bX3 (bnw am 3 0) am.length) j 5 am.length
def bX4 (am : List Oj) (j : Nat) : List Oj := bX4b (bX4a am j) j
theorem s_x4 {K : Rs → Mm → Prop} {M : Mm} {am : List Oj} {a j : Nat} (R : Rep M am) (ha : Nm M a j) (hk : bkd am j = 4) (h : ∀ M', Rep M' (bX4 am j) → Pf M M' → K (.inl none) M') : V_X4_init K M a := by
  have hj := R.lt ha
  unfold V_X4_init
  intro w1 h1 M1 e1
  obtain ⟨R1, n1, f1⟩ := R.new h1 e1
  refine ⟨R1.ob (ha.pf f1) (by rw [bkd_n _ _ hj]; exact hk), fun M2 e2 w3 h3 M3 e3 => ?_⟩
  obtain ⟨R2, f2⟩ := R1.sp (ha.pf f1) n1 e2
  have g2 := f1.trans f2
  have R2 : Rep M2 (bX4a am j) := R2
  have k2 : bkd (bX4a am j) j = 4 := by unfold bX4a; rw [bkd_p _ _ _ (by rw [bnw_l]; omega), bkd_n _ _ hj]; exact hk
  have j2 := R2.lt (ha.pf g2)
  have h : ∀ M', Rep M' (bX4b (bX4a am j) j) → Pf M M' → K (.inl none) M' := h
  generalize bX4a am j = am2 at R2 k2 j2 h
  obtain ⟨R3, n3, f3⟩ := R2.new h3 e3
  have g3 := g2.trans f3
  refine s_x3 R3 n3 (bkd_w am2 3 0) (fun M4 R4 f4 => kV_i ⟨R4.ob (ha.pf (g3.trans f4)) ?_, fun M5 e5 => ?_⟩)
  · rw [bX3_k (by rw [bnw_l]; omega) (by rw [bnw_l]; omega), bkd_n _ _ j2]; exact k2
  have g4 := g3.trans f4
  obtain ⟨R5, f5⟩ := R4.sp (ha.pf g4) (n3.pf f4) e5
  exact h M5 R5 (g4.trans f5)
/-- a Log -/
def bX1a (am : List Oj) (j p : Nat) : List Oj := bsp (bnw am 9 300) j p am.length
def bX1 (am : List Oj) (j : Nat) : List Oj := bX1a (bX1a (bX1a (bX1a am j 0) j 1) j 2) j 3
theorem bX1a_s {M M1 M2 : Mm} {am : List Oj} {a j p w : Nat} (R : Rep M am) (ha : Nm M a j) (h : w ∉ mL M) (e1 : M1 = nO M w 9 300) (e2 : M2 = sP M1 a p (some w)) : Rep M2 (bX1a am j p) ∧ Pf M M2 := by
  obtain ⟨R1, n1, f1⟩ := R.new h e1
  obtain ⟨R2, f2⟩ := R1.sp (ha.pf f1) n1 e2
  exact ⟨R2, f1.trans f2⟩
theorem s_x1 {K : Rs → Mm → Prop} {M : Mm} {am : List Oj} {a j : Nat} (R : Rep M am) (ha : Nm M a j) (hk : bkd am j = 1) (h : ∀ M', Rep M' (bX1 am j) → Pf M M' → K (.inl none) M') : V_X1_init K M a := by
  have hj := R.lt ha
  unfold V_X1_init
  intro w1 h1 M1 e1
  obtain ⟨R1, n1, f1⟩ := R.new h1 e1
  refine ⟨R1.ob (ha.pf f1) (by rw [bkd_n _ _ hj]; exact hk), fun M2 e2 w3 h3 M3 e3 M4 e4 w5 h5 M5 e5 M6 e6 w7 h7 M7 e7 M8 e8 => ?_⟩
  obtain ⟨R2, g2⟩ := bX1a_s R ha h1 e1 e2
  obtain ⟨R4, g4⟩ := bX1a_s R2 (ha.pf g2) h3 e3 e4
  have g4 := g2.trans g4
  obtain ⟨R6, g6⟩ := bX1a_s R4 (ha.pf g4) h5 e5 e6
  have g6 := g4.trans g6
  obtain ⟨R8, g8⟩ := bX1a_s R6 (ha.pf g6) h7 e7 e8
  exact h M8 R8 (g6.trans g8)
