/-! the model's desk: runs that end -/
def wOk (D : Dk) : Prop := ∀ k, k < 12 → ∀ w, dW D k = some w → 0 ≤ w ∧ w ≤ 2000000000
def l8D (D : Dk) : Prop := ∀ k, k < 12 → (dR D k).length ≤ 8
def srtD (D : Dk) : Prop := ∀ k, k < 12 → (dR D k).Pairwise (fun a b => a.1 ≤ b.1)
theorem wN_lt {w : Option Int} (h : ∀ v, w = some v → 0 ≤ v ∧ v ≤ 2000000000) : (wN w < 0 ↔ w = none) ∧ -1 ≤ wN w ∧ wN w ≤ 2000000000 := by
  rcases w with _ | v
  · exact ⟨⟨fun _ => rfl, fun _ => by decide⟩, by decide, by decide⟩
  · have := h v rfl
    refine ⟨⟨fun q => ?_, fun q => by cases q⟩, ?_, ?_⟩
    · unfold wN at q; simp only at q; omega
    · unfold wN; simp only; omega
    · unfold wN; simp only; omega
theorem s7_dueM {K : Rs → Mm → Prop} {A : Nat → Nat} {M : Mm} {us : Nat → Bool} {tk ov : Nat → Int} {D : Dk} {R : List (Nat × Int × Int)} {k : Nat} {now ma : Int} (hs : Sta A M) (hD : DkM A M us D R) (ho : OvM A M tk ov) (h8 : l8D D) (hw : wOk D) (hu : us k = true) (hk : k < 12) (hc : dC D < 2000000000) (hn : mI M (A 11) 52 = i32 now) (h : ∀ M' R', Dm A M M' → DkM A M' us (dkDue tk ov now k ma D) R' → K (.inl none) M') : V_X7_due K M (A 11) (i32 (k : Nat)) (i32 ma) := by
  have hR := hD.2.2.1.len h8
  have md := hs.2.2.2.2.1
  have p30 := md.p 30 9 12 (by decide)
  have p43 := md.p 43 9 12 (by decide)
  have p44 := md.p 44 9 12 (by decide)
  have n : ∀ {i j : Nat}, i ≠ j → A i ≠ A j := fun h => hs.ne h
  have ck : (i32 (k : Nat)).toNatClampNeg = k := by rw [i32_clamp (by omega) (by omega), Int.toNat_natCast]
  have vin : ∀ {p c}, (p, c, 12) ∈ mPl → vp_in (i32 (k : Nat)) (mN M (A (200 + p))) := fun hp => by rw [(md.p _ _ _ hp).2.2.1]; exact i32_in (by omega) (by omega) (by omega)
  obtain ⟨o1, o2, o3, o4⟩ := ho k hk
  have hl8 := h8 k hk
  obtain ⟨hL, hRm, hP, hO⟩ := hD
  have hD' : DkM A M us D R := ⟨hL, hRm, hP, hO⟩
  obtain ⟨hO1, hO2, hO3⟩ := hO k hk
  have hW := wN_lt (hw k hk)
  unfold dkDue at h
  have c25 : mayB ov D k = true → V_X7_due_25 K M (A 11) (i32 (k : Nat)) (i32 ma) := by
    intro q
    rw [if_pos q] at h
    unfold V_X7_due_25 V_X7_due_99
    refine ⟨md.1, ?_⟩
    rw [hn]
    exact s7_bgn hs hD' ho hR hk hc (fun M' g' d' => kV_i (h M' _ g' d'))
  have c38 : mayB ov D k = false → V_X7_due_38 K M (A 11) (i32 (k : Nat)) (i32 ma) := by
    intro q
    rw [if_neg (by rw [q]; decide)] at h
    have c78 : mayW ov D k = false → V_X7_due_78 K M (A 11) (i32 (k : Nat)) (i32 ma) := by
      intro q2
      rw [if_neg (by rw [q2]; decide)] at h
      unfold V_X7_due_78 V_X7_due_99
      refine ⟨md.1, A 243, p43.1, p43.2.1, vin (p := 43) (c := 9) (by decide), vin (p := 43) (c := 9) (by decide), fun M6 e6 => ?_⟩
      rw [ck, sI_w] at e6
      generalize hX : va_up (mI M (A 243)) k (mI M (A 243) k + 1) = X at e6
      subst e6
      have g : Dm A M (wI M (A 243) X) := Dm.w hs (by decide) X
      rw [mI_wn _ _ (n (show (11 : Nat) ≠ 243 by decide)), hn, q_2]
      refine s7_line (D := dkX D k) (g.sta hs) ⟨?_, ?_, hP, fun j hj => ?_⟩ hc (fun M' g' d' => kV_i (h M' R (g.trans g') d'))
      · rw [mI_wn _ _ (n (by decide)), mI_wn _ _ (n (by decide)), mI_wn _ _ (n (by decide)), mI_wn _ _ (n (by decide)), mI_wn _ _ (n (by decide))]; exact hL
      · rw [mI_wn _ _ (n (by decide)), mI_wn _ _ (n (by decide)), mI_wn _ _ (n (by decide)), mI_wn _ _ (n (by decide))]; exact hRm
      · rw [mI_wn _ _ (n (show (244 : Nat) ≠ 243 by decide)), mI_wn _ _ (n (show (242 : Nat) ≠ 243 by decide)), mI_w, ← hX]
        refine ⟨(hO j hj).1, (hO j hj).2.1, ?_⟩
        show _ = va_up (dD D) k _ j
        by_cases c : j = k
        · subst c; rw [va_up_self, va_up_self, hO3]
        · rw [va_up_ne _ _ c, va_up_ne _ _ c]; exact (hO j hj).2.2
    unfold V_X7_due_38
    refine ⟨md.1, A 230, p30.1, p30.2.1, vin (p := 30) (c := 9) (by decide), ?_⟩
    rw [ck, o1, q_2, i32_eq (by omega) (by omega) (by omega) (by omega)]
    refine ⟨fun q2 => c78 (by unfold mayW; rw [decide_eq_false_iff_not]; exact fun c => q2 c.1), fun q2 => ⟨A 244, p44.1, p44.2.1, vin (p := 44) (c := 9) (by decide), ?_⟩⟩
    rw [hO1 hu, q_0, i32_le (by omega) (by omega) (by omega) (by omega)]
    refine ⟨fun q3 => c78 ?_, fun q3 => ⟨A 244, p44.1, p44.2.1, vin (p := 44) (c := 9) (by decide), fun M11 e11 => ?_⟩⟩
    · unfold mayW
      rw [decide_eq_false_iff_not]
      intro c
      have := hW.1.mpr c.2
      omega
    · have hwn : dW D k = none := hW.1.mp (by omega)
      rw [if_pos (show mayW ov D k = true by unfold mayW; rw [decide_eq_true_iff]; exact ⟨q2, hwn⟩)] at h
      unfold V_X7_due_99
      rw [sI_w] at e11
      generalize hX : va_up (mI M (A 244)) k (i32 ma) = X at e11
      subst e11
      have g : Dm A M (wI M (A 244) X) := Dm.w hs (by decide) X
      rw [mI_wn _ _ (n (show (11 : Nat) ≠ 244 by decide)), hn, q_3]
      refine s7_line (D := dkW D k (some ma)) (g.sta hs) ⟨?_, ?_, hP, fun j hj => ?_⟩ hc (fun M' g' d' => kV_i (h M' R (g.trans g') d'))
      · rw [mI_wn _ _ (n (by decide)), mI_wn _ _ (n (by decide)), mI_wn _ _ (n (by decide)), mI_wn _ _ (n (by decide)), mI_wn _ _ (n (by decide))]; exact hL
      · rw [mI_wn _ _ (n (by decide)), mI_wn _ _ (n (by decide)), mI_wn _ _ (n (by decide)), mI_wn _ _ (n (by decide))]; exact hRm
      · rw [mI_w, mI_wn _ _ (n (show (242 : Nat) ≠ 244 by decide)), mI_wn _ _ (n (show (243 : Nat) ≠ 244 by decide)), ← hX]
        refine ⟨fun huj => ?_, (hO j hj).2.1, (hO j hj).2.2⟩
        show _ = i32 (wN (va_up (dW D) k (some ma) j))
        by_cases c : j = k
        · subst c; rw [va_up_self, va_up_self]; rfl
        · rw [va_up_ne _ _ c, va_up_ne _ _ c]; exact (hO j hj).1 huj
  unfold V_X7_due
  refine ⟨md.1, s7_ro hs hD' hR hk (kI_i ?_)⟩
  rw [q_0, i32_eq (by omega) (by omega) (by omega) (by omega)]
  refine ⟨fun q => c25 (by unfold mayB; rw [decide_eq_true_iff]; omega), fun q => ⟨md.1, A 230, p30.1, p30.2.1, vin (p := 30) (c := 9) (by decide), ?_⟩⟩
  rw [ck, o1, i32_eq (by omega) (by omega) (by omega) (by omega), q_8, i32_le (by omega) (by omega) (by omega) (by omega)]
  exact ⟨fun q2 => c38 (by unfold mayB; rw [decide_eq_false_iff_not]; omega), fun q2 => ⟨fun q3 => c38 (by unfold mayB; rw [decide_eq_false_iff_not]; omega), fun q3 => c25 (by unfold mayB; rw [decide_eq_true_iff]; omega)⟩⟩
theorem getD_er {R : List (Nat × Int × Int)} {r i : Nat} : (R.eraseIdx r).getD i (0, 0, 0) = if i < r then R.getD i (0, 0, 0) else R.getD (i + 1) (0, 0, 0) := by
  rw [List.getD_eq_getElem?_getD, List.getElem?_eraseIdx]
  split
  · rw [List.getD_eq_getElem?_getD]
  · rw [List.getD_eq_getElem?_getD]
/-- a run is taken off the model's list -/
theorem s7_drop {K : Rs → Mm → Prop} {A : Nat → Nat} {M : Mm} {R : List (Nat × Int × Int)} {r : Nat} (hs : Sta A M) (hRm : RuM (mI M (A 11) 45) (mI M (A 246)) (mI M (A 247)) (mI M (A 248)) R) (hR : R.length ≤ 96) (hr : r < R.length) (h : ∀ M', Dm A M M' → RuM (mI M' (A 11) 45) (mI M' (A 246)) (mI M' (A 247)) (mI M' (A 248)) (R.eraseIdx r) → (∀ i, i ≠ 11 → i ≠ 246 → i ≠ 247 → i ≠ 248 → mI M' (A i) = mI M (A i)) → mI M' (A 11) 55 = mI M (A 11) 55 → K (.inl none) M') : V_X7_dropRun K M (A 11) (i32 (r : Nat)) := by
  have md := hs.2.2.2.2.1
  have n : ∀ {i j : Nat}, i ≠ j → A i ≠ A j := fun h => hs.ne h
  obtain ⟨n1, n2⟩ := hRm
  have hle : (R.eraseIdx r).length = R.length - 1 := by rw [List.length_eraseIdx, if_pos hr]
  have go : ∀ (w i : Nat) (M1 : Mm), i + w = R.length - 1 → r ≤ i → Dm A M M1 → mI M1 (A 11) 45 = i32 ((R.length : Nat) - 1 : Int) → mI M1 (A 11) 55 = mI M (A 11) 55 → (∀ q, q ≠ 11 → q ≠ 246 → q ≠ 247 → q ≠ 248 → mI M1 (A q) = mI M (A q)) → (∀ j, j < R.length → (j < i → mI M1 (A 246) j = i32 (((R.eraseIdx r).getD j (0, 0, 0)).1 : Nat) ∧ mI M1 (A 247) j = i32 ((R.eraseIdx r).getD j (0, 0, 0)).2.1 ∧ mI M1 (A 248) j = i32 ((R.eraseIdx r).getD j (0, 0, 0)).2.2) ∧ (i ≤ j → mI M1 (A 246) j = i32 ((R.getD j (0, 0, 0)).1 : Nat) ∧ mI M1 (A 247) j = i32 (R.getD j (0, 0, 0)).2.1 ∧ mI M1 (A 248) j = i32 (R.getD j (0, 0, 0)).2.2)) → V_X7_dropRun_12 K (w + 1) M1 (A 11) (i32 (i : Nat)) := by
    intro w
    induction w with
    | zero =>
      intro i M1 e1 e2 g h45 h55 hfr hrow
      unfold V_X7_dropRun_12
      rw [h45, i32_le (by omega) (by omega) (by omega) (by omega)]
      refine ⟨(g.sta hs).2.2.2.2.1.1, fun _ => h M1 g ⟨?_, fun j hj => ?_⟩ hfr h55, fun q => absurd (by omega) q⟩
      · rw [h45, hle]; congr 1; omega
      · rw [hle] at hj
        exact (hrow j (by omega)).1 (by omega)
    | succ w ih =>
      intro i M1 e1 e2 g h45 h55 hfr hrow
      have md1 := (g.sta hs).2.2.2.2.1
      have p46 := md1.p 46 9 100 (by decide)
      have p47 := md1.p 47 9 100 (by decide)
      have p48 := md1.p 48 9 100 (by decide)
      have ci : (i32 (i : Nat)).toNatClampNeg = i := by rw [i32_clamp (by omega) (by omega), Int.toNat_natCast]
      have ci1 : (i32 (i : Nat) + 1).toNatClampNeg = i + 1 := by rw [q_1, i32_add, i32_clamp (by omega) (by omega)]; omega
      have v1 : ∀ N, N = 100 → vp_in (i32 (i : Nat)) N := fun N e => by rw [e]; exact i32_in (by omega) (by omega) (by omega)
      have v2 : ∀ N, N = 100 → vp_in (i32 (i : Nat) + 1) N := fun N e => by rw [e, q_1, i32_add]; exact i32_in (by omega) (by omega) (by omega)
      unfold V_X7_dropRun_12
      rw [h45, i32_le (by omega) (by omega) (by omega) (by omega)]
      refine ⟨md1.1, fun q => absurd q (by omega), fun _ => ⟨A 246, p46.1, A 246, p46.1, p46.2.1, v2 _ p46.2.2.1, p46.2.1, v1 _ p46.2.2.1, fun M8 e8 => ⟨A 247, ?_⟩⟩⟩
      rw [ci, ci1, sI_w] at e8
      generalize hX6 : va_up (mI M1 (A 246)) i (mI M1 (A 246) (i + 1)) = X6 at e8
      subst e8
      refine ⟨p47.1, A 247, p47.1, p47.2.1, v2 _ p47.2.2.1, p47.2.1, v1 _ p47.2.2.1, fun M15 e15 => ⟨A 248, ?_⟩⟩
      rw [ci, ci1, sI_w, mI_wn _ _ (n (show (247 : Nat) ≠ 246 by decide))] at e15
      generalize hX7 : va_up (mI M1 (A 247)) i (mI M1 (A 247) (i + 1)) = X7 at e15
      subst e15
      refine ⟨p48.1, A 248, p48.1, p48.2.1, v2 _ p48.2.2.1, p48.2.1, v1 _ p48.2.2.1, fun M22 e22 x23 e23 => ?_⟩
      rw [ci, ci1, sI_w, mI_wn _ _ (n (show (248 : Nat) ≠ 247 by decide)), mI_wn _ _ (n (show (248 : Nat) ≠ 246 by decide))] at e22
      generalize hX8 : va_up (mI M1 (A 248)) i (mI M1 (A 248) (i + 1)) = X8 at e22
      subst e23
      have g1 := g.trans (Dm.w (g.sta hs) (i := 246) (by decide) X6)
      have g2 := g1.trans (Dm.w (g1.sta hs) (i := 247) (by decide) X7)
      have g3 := g2.trans (Dm.w (g2.sta hs) (i := 248) (by decide) X8)
      rw [← e22] at g3
      have rr : ∀ q, q ≠ 246 → q ≠ 247 → q ≠ 248 → mI M22 (A q) = mI M1 (A q) := fun q c1 c2 c3 => by
        rw [e22, mI_wn _ _ (n c3), mI_wn _ _ (n c2), mI_wn _ _ (n c1)]
      have r6 : mI M22 (A 246) = X6 := by rw [e22, mI_wn _ _ (n (by decide)), mI_wn _ _ (n (by decide)), mI_w]
      have r7 : mI M22 (A 247) = X7 := by rw [e22, mI_wn _ _ (n (by decide)), mI_w]
      have r8 : mI M22 (A 248) = X8 := by rw [e22, mI_w]
      rw [q_1, i32_add, show ((i : Nat) : Int) + 1 = ((i + 1 : Nat) : Int) by omega]
      refine ih (i + 1) M22 (by omega) (by omega) g3 (by rw [rr 11 (by decide) (by decide) (by decide)]; exact h45) (by rw [rr 11 (by decide) (by decide) (by decide)]; exact h55) (fun q c1 c2 c3 c4 => by rw [rr q c2 c3 c4]; exact hfr q c1 c2 c3 c4) (fun j hj => ?_)
      rw [r6, r7, r8, ← hX6, ← hX7, ← hX8]
      by_cases c : j = i
      · subst c
        rw [va_up_self, va_up_self, va_up_self]
        refine ⟨fun _ => ?_, fun q => by omega⟩
        rw [getD_er, if_neg (by omega)]
        exact (hrow (j + 1) (by omega)).2 (by omega)
      · rw [va_up_ne _ _ c, va_up_ne _ _ c, va_up_ne _ _ c]
        exact ⟨fun q => (hrow j hj).1 (by omega), fun q => (hrow j hj).2 (by omega)⟩
  unfold V_X7_dropRun
  refine ⟨md.1, fun M2 e2 => ⟨R.length - 1 - r + 1, ?_⟩⟩
  rw [n1, q_1, i32_sub, sI_w] at e2
  generalize hXm : va_up (mI M (A 11)) 45 (i32 (((R.length : Nat) : Int) - 1)) = Xm at e2
  subst e2
  have rr : ∀ q, q ≠ 11 → mI (wI M (A 11) Xm) (A q) = mI M (A q) := fun q c => mI_wn _ _ (n c)
  refine go _ r _ (by omega) (Nat.le_refl _) (Dm.wm Xm (fun p c1 _ => by rw [← hXm, va_up_ne _ _ c1])) (by rw [mI_w, ← hXm, va_up_self]) (by rw [mI_w, ← hXm, va_up_ne _ _ (by decide)]) (fun q c1 _ _ _ => rr q c1) (fun j hj => ?_)
  rw [rr 246 (by decide), rr 247 (by decide), rr 248 (by decide)]
  refine ⟨fun q => ?_, fun _ => n2 j hj⟩
  rw [getD_er, if_pos q]
  exact n2 j hj
/-- the run that ends next, in the model's list -/
def Bst (R : List (Nat × Int × Int)) (t : Int) (i : Nat) (v : Int) : Prop := (v = -1 ∧ ∀ j, j < i → t < (R.getD j (0, 0, 0)).2.1) ∨ (0 ≤ v ∧ v < i ∧ (R.getD v.toNat (0, 0, 0)).2.1 ≤ t ∧ (∀ j, j < i → (R.getD j (0, 0, 0)).2.1 ≤ t → (R.getD v.toNat (0, 0, 0)).2.1 < (R.getD j (0, 0, 0)).2.1 ∨ ((R.getD v.toNat (0, 0, 0)).2.1 = (R.getD j (0, 0, 0)).2.1 ∧ (R.getD v.toNat (0, 0, 0)).1 ≤ (R.getD j (0, 0, 0)).1)) ∧ (∀ j : Nat, (j : Int) < v → (R.getD j (0, 0, 0)).2.1 ≤ t → (R.getD v.toNat (0, 0, 0)).2.1 < (R.getD j (0, 0, 0)).2.1 ∨ ((R.getD v.toNat (0, 0, 0)).2.1 = (R.getD j (0, 0, 0)).2.1 ∧ (R.getD v.toNat (0, 0, 0)).1 < (R.getD j (0, 0, 0)).1)))
theorem s7_ending {K : Rs → Mm → Prop} {A : Nat → Nat} {M : Mm} {R : List (Nat × Int × Int)} {t : Int} (hs : Sta A M) (hRm : RuM (mI M (A 11) 45) (mI M (A 246)) (mI M (A 247)) (mI M (A 248)) R) (hR : R.length ≤ 96) (hb : ∀ q ∈ R, q.1 < 12 ∧ -10 ≤ q.2.1 ∧ q.2.1 ≤ 200000000) (ht : -10 ≤ t ∧ t ≤ 200000000) (h : ∀ v, Bst R t R.length v → K (.inl (some (.int (i32 v)))) M) : V_X7_ending K M (A 11) (i32 t) := by
  have md := hs.2.2.2.2.1
  have p46 := md.p 46 9 100 (by decide)
  have p47 := md.p 47 9 100 (by decide)
  obtain ⟨n1, n2⟩ := hRm
  have hbi : ∀ j, j < R.length → (R.getD j (0, 0, 0)).1 < 12 ∧ -10 ≤ (R.getD j (0, 0, 0)).2.1 ∧ (R.getD j (0, 0, 0)).2.1 ≤ 200000000 := fun j hj => hb _ (by
    rw [List.getD_eq_getElem?_getD, List.getElem?_eq_getElem hj]
    exact List.getElem_mem _)
  have go : ∀ (w i : Nat) (v : Int), i + w = R.length → Bst R t i v → V_X7_ending_4 K (w + 1) M (A 11) (i32 t) (i32 v) (i32 (i : Nat)) := by
    intro w
    induction w with
    | zero =>
      intro i v e1 hB
      unfold V_X7_ending_4
      rw [n1, i32_le (by omega) (by omega) (by omega) (by omega)]
      have : i = R.length := by omega
      exact ⟨md.1, fun _ => h v (this ▸ hB), fun q => absurd (by omega) q⟩
    | succ w ih =>
      intro i v e1 hB
      have hi : i < R.length := by omega
      have bi := hbi i hi
      have ci : (i32 (i : Nat)).toNatClampNeg = i := by rw [i32_clamp (by omega) (by omega), Int.toNat_natCast]
      have vi : ∀ N, N = 100 → vp_in (i32 (i : Nat)) N := fun N e => by rw [e]; exact i32_in (by omega) (by omega) (by omega)
      have keep : Bst R t (i + 1) v → V_X7_ending_87 K (fun M l0 l1 l2 l3 => V_X7_ending_4 K (w + 1) M l0 l1 l2 l3) M (A 11) (i32 t) (i32 v) (i32 (i : Nat)) := by
        intro hB'
        unfold V_X7_ending_87 V_X7_ending_88
        intro x1 ex
        subst ex
        rw [q_1, i32_add, show ((i : Nat) : Int) + 1 = ((i + 1 : Nat) : Int) by omega]
        exact ih (i + 1) v (by omega) hB'
      have take : Bst R t (i + 1) i → V_X7_ending_88 K (fun M l0 l1 l2 l3 => V_X7_ending_4 K (w + 1) M l0 l1 l2 l3) M (A 11) (i32 t) (i32 (i : Nat)) (i32 (i : Nat)) := by
        intro hB'
        unfold V_X7_ending_88
        intro x1 ex
        subst ex
        rw [q_1, i32_add, show ((i : Nat) : Int) + 1 = ((i + 1 : Nat) : Int) by omega]
        exact ih (i + 1) i (by omega) hB'
      have late : t < (R.getD i (0, 0, 0)).2.1 → Bst R t (i + 1) v := by
        intro q
        rcases hB with ⟨b1, b2⟩ | ⟨b1, b2, b3, b4, b5⟩
        · refine .inl ⟨b1, fun j hj => ?_⟩
          by_cases c : j = i
          · subst c; exact q
          · exact b2 j (by omega)
        · refine .inr ⟨b1, by omega, b3, fun j hj hjt => ?_, b5⟩
          by_cases c : j = i
          · subst c; omega
          · exact b4 j (by omega) hjt
      have c66 : ∀ b : Bool, (b = true → (R.getD i (0, 0, 0)).2.1 ≤ t → Bst R t (i + 1) i) → (b = false → (R.getD i (0, 0, 0)).2.1 ≤ t → Bst R t (i + 1) v) → V_X7_ending_66 K (fun M l0 l1 l2 l3 => V_X7_ending_4 K (w + 1) M l0 l1 l2 l3) M (A 11) (i32 t) (i32 v) (i32 (i : Nat)) (bI b) := by
        intro b hT hF
        unfold V_X7_ending_66
        refine ⟨md.1, A 247, p47.1, p47.2.1, vi _ p47.2.2.1, ?_⟩
        rw [ci, (n2 i hi).2.1, i32_lt (by omega) (by omega) (by omega) (by omega), bI_ne0, bI_0]
        exact ⟨fun q => keep (late q), fun q => ⟨fun q2 => keep (hF q2 (by omega)), fun q2 => take (hT q2 (by omega))⟩⟩
      unfold V_X7_ending_4 V_X7_ending_61 V_X7_ending_65
      rw [n1, i32_le (by omega) (by omega) (by omega) (by omega)]
      refine ⟨md.1, fun q => absurd q (by omega), fun _ => ?_⟩
      have hvb : -1 ≤ v ∧ v < i := by rcases hB with ⟨b1, _⟩ | ⟨b1, b2, _⟩ <;> omega
      rw [q_0, i32_lt (by omega) (by omega) (by omega) (by omega)]
      refine ⟨fun q => c66 true (fun _ hle => ?_) (fun c => absurd c (by decide)), fun q => ?_⟩
      · have b2 := (hB.resolve_right (fun c => by omega)).2
        refine .inr ⟨by omega, by omega, by rw [Int.toNat_natCast]; exact hle, fun j hj hjt => ?_, fun j hj hjt => ?_⟩
        · by_cases c : j = i
          · subst c; rw [Int.toNat_natCast]; exact .inr ⟨rfl, Nat.le_refl _⟩
          · have := b2 j (by omega); omega
        · have := b2 j (by omega); omega
      · obtain ⟨b1, b2, b3, b4, b5⟩ := hB.resolve_left (fun c => by omega)
        obtain ⟨u, rfl⟩ : ∃ u : Nat, v = u := ⟨v.toNat, by omega⟩
        rw [Int.toNat_natCast] at b3 b4 b5
        have hu : u < R.length := by omega
        have bu := hbi u hu
        have cu : (i32 (u : Nat)).toNatClampNeg = u := by rw [i32_clamp (by omega) (by omega), Int.toNat_natCast]
        have vu : ∀ N, N = 100 → vp_in (i32 (u : Nat)) N := fun N e => by rw [e]; exact i32_in (by omega) (by omega) (by omega)
        have better : ((R.getD i (0, 0, 0)).2.1 < (R.getD u (0, 0, 0)).2.1 ∨ ((R.getD i (0, 0, 0)).2.1 = (R.getD u (0, 0, 0)).2.1 ∧ (R.getD i (0, 0, 0)).1 < (R.getD u (0, 0, 0)).1)) → (R.getD i (0, 0, 0)).2.1 ≤ t → Bst R t (i + 1) i := by
          intro hb hle
          refine .inr ⟨by omega, by omega, by rw [Int.toNat_natCast]; exact hle, fun j hj hjt => ?_, fun j hj hjt => ?_⟩
          · rw [Int.toNat_natCast]
            by_cases c : j = i
            · subst c; exact .inr ⟨rfl, Nat.le_refl _⟩
            · have := b4 j (by omega) hjt; omega
          · rw [Int.toNat_natCast]
            have := b4 j (by omega) hjt; omega
        have worse : ¬ ((R.getD i (0, 0, 0)).2.1 < (R.getD u (0, 0, 0)).2.1 ∨ ((R.getD i (0, 0, 0)).2.1 = (R.getD u (0, 0, 0)).2.1 ∧ (R.getD i (0, 0, 0)).1 < (R.getD u (0, 0, 0)).1)) → (R.getD i (0, 0, 0)).2.1 ≤ t → Bst R t (i + 1) u := by
          intro hb hle
          refine .inr ⟨by omega, by omega, by rw [Int.toNat_natCast]; exact b3, fun j hj hjt => ?_, fun j hj hjt => ?_⟩
          · rw [Int.toNat_natCast]
            by_cases c : j = i
            · subst c; omega
            · exact b4 j (by omega) hjt
          · rw [Int.toNat_natCast]; exact b5 j hj hjt
        refine ⟨A 247, p47.1, p47.2.1, vi _ p47.2.2.1, A 247, p47.1, p47.2.1, vu _ p47.2.2.1, ?_⟩
        rw [ci, cu, (n2 i hi).2.1, (n2 u hu).2.1, i32_lt (by omega) (by omega) (by omega) (by omega)]
        refine ⟨fun q2 => c66 true (fun _ hle => better (.inl q2) hle) (fun c => absurd c (by decide)), fun q2 => ⟨A 247, p47.1, p47.2.1, vi _ p47.2.2.1, A 247, p47.1, p47.2.1, vu _ p47.2.2.1, ?_⟩⟩
        rw [(n2 i hi).2.1, (n2 u hu).2.1, i32_eq (by omega) (by omega) (by omega) (by omega)]
        refine ⟨fun q3 => c66 false (fun c => absurd c (by decide)) (fun _ hle => worse (by omega) hle), fun q3 => ⟨A 246, p46.1, p46.2.1, vi _ p46.2.2.1, A 246, p46.1, p46.2.1, vu _ p46.2.2.1, ?_⟩⟩
        rw [(n2 i hi).1, (n2 u hu).1, i32_le (by omega) (by omega) (by omega) (by omega)]
        exact ⟨fun q4 => c66 false (fun c => absurd c (by decide)) (fun _ hle => worse (by omega) hle), fun q4 => c66 true (fun _ hle => better (by omega) hle) (fun c => absurd c (by decide))⟩
  unfold V_X7_ending
  refine ⟨R.length + 1, ?_⟩
  rw [show (-1 : Int32) = i32 (-1) by decide]
  exact go R.length 0 (-1) (by omega) (.inl ⟨rfl, fun j hj => absurd hj (Nat.not_lt_zero _)⟩)
