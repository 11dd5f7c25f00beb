/-! the model ends its runs -/
theorem RuP.er {R P Q : List (Nat × Int × Int)} {f : Nat → List (Int × Int)} {k : Nat} {e ma : Int} (h : RuP R f) (hR : R = P ++ (k, e, ma) :: Q) (hno : ∀ q ∈ P, q.1 ≠ k) (hk : k < 12) : RuP (R.eraseIdx P.length) (va_up f k ((Q.filter (fun q => q.1 == k)).map (fun q => q.2))) := by
  have e1 : R.eraseIdx P.length = P ++ Q := by
    rw [hR, List.eraseIdx_append_of_length_le (Nat.le_refl _), Nat.sub_self]; rfl
  rw [e1]
  refine ⟨fun q hq => h.1 q ?_, fun j hj => ?_⟩
  · rw [hR]
    rcases List.mem_append.mp hq with c | c
    · exact List.mem_append_left _ c
    · exact List.mem_append_right _ (List.mem_cons_of_mem _ c)
  · by_cases c : j = k
    · subst c
      rw [va_up_self, List.filter_append]
      have : P.filter (fun q => q.1 == j) = [] := by
        rw [List.filter_eq_nil_iff]
        intro q hq
        simpa using hno q hq
      rw [this]; rfl
    · rw [va_up_ne _ _ c, ← h.2 j hj, hR, List.filter_append, List.filter_append, List.filter_cons]
      have : ¬ (k == j) = true := by simp; exact fun q => c q.symm
      simp only [this]
      rfl
theorem s7_endr {K : Rs → Mm → Prop} {A : Nat → Nat} {M : Mm} {us : Nat → Bool} {tk ov : Nat → Int} {D : Dk} {R P Q : List (Nat × Int × Int)} {k : Nat} {e ma : Int} (hs : Sta A M) (hD : DkM A M us D R) (ho : OvM A M tk ov) (h8 : l8D D) (hw : wOk D) (hR : R = P ++ (k, e, ma) :: Q) (hno : ∀ q ∈ P, q.1 ≠ k) (hk : k < 12) (el : dR D k = (e, ma) :: (Q.filter (fun q => q.1 == k)).map (fun q => q.2)) (hu : us k = true) (hc : dC D + 2 < 2000000000)
    (h : ∀ M' R', Dm A M M' → DkM A M' us (dkE tk k D) R' → K (.inl none) M') : V_X7_end K M (A 11) (i32 (P.length : Nat)) (i32 e) := by
  have hR96 := hD.2.2.1.len h8
  have md := hs.2.2.2.2.1
  have p44 := md.p 44 9 12 (by decide)
  have p46 := md.p 46 9 100 (by decide)
  have p48 := md.p 48 9 100 (by decide)
  have n : ∀ {i j : Nat}, i ≠ j → A i ≠ A j := fun h => hs.ne h
  have hPl : P.length < R.length := by rw [hR, List.length_append, List.length_cons]; omega
  have hgx : R.getD P.length (0, 0, 0) = (k, e, ma) := by rw [hR]; simp [List.getD_eq_getElem?_getD]
  obtain ⟨hL, ⟨n1, n2⟩, hP, hO⟩ := hD
  have hD' : DkM A M us D R := ⟨hL, ⟨n1, n2⟩, hP, hO⟩
  have hrow := n2 P.length hPl
  rw [hgx] at hrow
  simp only at hrow
  have cp : (i32 (P.length : Nat)).toNatClampNeg = P.length := by rw [i32_clamp (by omega) (by omega), Int.toNat_natCast]
  have ck : (i32 (k : Nat)).toNatClampNeg = k := by rw [i32_clamp (by omega) (by omega), Int.toNat_natCast]
  have vin : vp_in (i32 (k : Nat)) 12 := i32_in (by omega) (by omega) (by omega)
  unfold V_X7_end V_X7_end_65
  refine ⟨md.1, A 246, p46.1, p46.2.1, by rw [p46.2.2.1]; exact i32_in (by omega) (by omega) (by omega), fun x5 e5 => ⟨A 248, p48.1, p48.2.1, by rw [p48.2.2.1]; exact i32_in (by omega) (by omega) (by omega), ?_⟩⟩
  rw [cp, hrow.1] at e5
  subst e5
  rw [cp, hrow.2.2, q_1]
  refine s7_line hs hD' (by omega) (fun M9 g9 d9 => kV_i ⟨(g9.sta hs).2.2.2.2.1.1, ?_⟩)
  have hs9 := g9.sta hs
  obtain ⟨hL9, hR9, hP9, hO9⟩ := d9
  refine s7_drop hs9 hR9 hR96 hPl (fun M11 g11 r11 fr11 f55 => kV_i ?_)
  have hs11 := g11.sta hs9
  have md11 := hs11.2.2.2.2.1
  have q44 := md11.p 44 9 12 (by decide)
  have hP' := hP.er hR hno hk
  generalize hr : (Q.filter (fun q => q.1 == k)).map (fun q => q.2) = r at el hP'
  have d11 : DkM A M11 us (dkLn (dkR D k r) 1 k e ma) (R.eraseIdx P.length) := by
    refine ⟨?_, r11, hP', fun j hj => ?_⟩
    · rw [f55, fr11 256 (by decide) (by decide) (by decide) (by decide), fr11 257 (by decide) (by decide) (by decide) (by decide), fr11 258 (by decide) (by decide) (by decide) (by decide), fr11 259 (by decide) (by decide) (by decide) (by decide)]
      exact hL9
    · rw [fr11 244 (by decide) (by decide) (by decide) (by decide), fr11 242 (by decide) (by decide) (by decide) (by decide), fr11 243 (by decide) (by decide) (by decide) (by decide)]
      exact hO9 j hj
  have hwk := wN_lt (hw k hk)
  have e44 : mI M11 (A 244) k = i32 (wN (dW D k)) := (d11.2.2.2 k hk).1 hu
  have gg := g9.trans g11
  refine ⟨md11.1, A 244, q44.1, q44.2.1, by rw [q44.2.2.1]; exact vin, ?_⟩
  rw [ck, e44, q_0, i32_lt (by omega) (by omega) (by omega) (by omega)]
  refine ⟨fun q => h M11 (R.eraseIdx P.length) gg ?_, fun q => ?_⟩
  · rw [dkE_cons el, hwk.1.mp q]
    exact d11
  · rcases hwd : dW D k with _ | w
    · exact absurd (hwk.1.mpr hwd) q
    have hlenr : (R.eraseIdx P.length).length ≤ 96 := by rw [List.length_eraseIdx, if_pos hPl]; omega
    have er : dR (dkLn (dkR D k r) 1 k e ma) k = r := va_up_self _ _ _
    refine s7_ro hs11 d11 hlenr hk (kI_i ?_)
    rw [er]
    have hrl : r.length ≤ 8 := by have := h8 k hk; rw [el] at this; simp only [List.length_cons] at this; omega
    rw [i32_eq (by omega) (by omega) (by omega) (by omega)]
    refine ⟨fun q2 => h M11 (R.eraseIdx P.length) gg ?_, fun q2 => ⟨md11.1, A 244, q44.1, q44.2.1, by rw [q44.2.2.1]; exact vin, fun x22 e22 => ⟨A 244, q44.1, q44.2.1, by rw [q44.2.2.1]; exact vin, fun M26 e26 => ?_⟩⟩⟩
    · rw [dkE_cons el, hwd]
      simp only
      rw [if_neg (fun c => q2 (by rw [c]; rfl))]
      exact d11
    · have hrn : r = [] := by
        rcases r with _ | ⟨y, l⟩
        · rfl
        · simp only [List.length_cons] at q2; omega
      rw [e44, hwd] at e22
      have e22' : x22 = i32 w := e22
      subst e22'
      rw [sI_w, i32_neg] at e26
      generalize hX : va_up (mI M11 (A 244)) k (i32 (-1)) = X at e26
      subst e26
      have g26 : Dm A M11 (wI M11 (A 244) X) := Dm.w hs11 (by decide) X
      have d26 : DkM A (wI M11 (A 244) X) us (dkW (dkLn (dkR D k r) 1 k e ma) k none) (R.eraseIdx P.length) := by
        obtain ⟨a1, a2, a3, a4⟩ := d11
        refine ⟨?_, ?_, a3, fun j hj => ?_⟩
        · rw [mI_wn _ _ (n (by decide)), mI_wn _ _ (n (by decide)), mI_wn _ _ (n (by decide)), mI_wn _ _ (n (by decide)), mI_wn _ _ (n (by decide))]; exact a1
        · rw [mI_wn _ _ (n (by decide)), mI_wn _ _ (n (by decide)), mI_wn _ _ (n (by decide)), mI_wn _ _ (n (by decide))]; exact a2
        · rw [mI_w, mI_wn _ _ (n (show (242 : Nat) ≠ 244 by decide)), mI_wn _ _ (n (show (243 : Nat) ≠ 244 by decide)), ← hX]
          refine ⟨fun huj => ?_, (a4 j hj).2.1, (a4 j hj).2.2⟩
          show _ = i32 (wN (va_up (dW D) k none j))
          by_cases c : j = k
          · subst c; rw [va_up_self, va_up_self]; rfl
          · rw [va_up_ne _ _ c, va_up_ne _ _ c]; exact (a4 j hj).1 huj
      have g3 := gg.trans g26
      refine s7_bgn (g3.sta hs) d26 (g3.ov hs ho) hlenr hk ?_ (fun M' g' d' => kV_i (h M' (R.eraseIdx P.length ++ [(k, e + tk k, w)]) (g3.trans g') ?_))
      · show dC D + 1 < 2000000000; omega
      · rw [dkE_cons el, hwd]
        simp only
        rw [if_pos hrn]
        exact d'
/-- a list's entries are in bounds -/
theorem DkM.bd {A : Nat → Nat} {M : Mm} {us : Nat → Bool} {D : Dk} {R : List (Nat × Int × Int)} (h : DkM A M us D R) (hb : bdE D) : ∀ q ∈ R, q.1 < 12 ∧ -10 ≤ q.2.1 ∧ q.2.1 ≤ 200000000 := fun q hq => by
  have h1 := h.2.2.1.1 q hq
  have : q.2 ∈ dR D q.1 := by
    rw [← h.2.2.1.2 q.1 h1]
    exact List.mem_map.mpr ⟨q, List.mem_filter.mpr ⟨hq, by simp⟩, rfl⟩
  exact ⟨h1, hb q.1 h1 q.2 this⟩
theorem Iv.us {now : Int} {us : Nat → Bool} {tk : Nat → Int} {D : Dk} {k : Nat} {x : Int × Int} {r : List (Int × Int)} (h : Iv now us tk D) (hk : k < 12) (el : dR D k = x :: r) : us k = true := by
  rcases c : us k with _ | _
  · have := (h.2.2.2.1 k hk c).1; rw [el] at this; cases this
  · rfl
/-- the model's loop that ends runs, in pass: each ends at its own minute -/
theorem s7_p95 {K : Rs → Mm → Prop} {B71 : Mm → Nat → Int32 → Int32 → Prop} {A : Nat → Nat} {us : Nat → Bool} {tk ov : Nat → Int} {t : Int} {l1 l2 : Int32} (ht : 0 ≤ t ∧ t ≤ 157785119) (htk : tkOk tk) :
    ∀ (n : Nat) (M : Mm) (D : Dk) (R : List (Nat × Int × Int)) (v : Int), mu D ≤ n → Sta A M → DkM A M us D R → OvM A M tk ov → Iv t us tk D → (∀ k, k < 12 → ∀ q ∈ dR D k, t ≤ q.1) → mI M (A 11) 52 = i32 t → dC D + 2 * n + 2 < 2000000000 → Bst R t R.length v →
      (∀ M' R', Dm A M M' → DkM A M' us (endF tk t n D) R' → ∃ y, V_X7_pass_123 K B71 y M' (A 11) l1 l2 0) → V_X7_pass_95 K B71 (n + 1) M (A 11) l1 l2 (i32 v) := by
  intro n
  induction n with
  | zero =>
    intro M D R v hm hs hD ho hI hge hn hc hB h
    have hnx := nx_mu (D := D) (t := t) (by omega)
    unfold V_X7_pass_95
    rcases Bst_nx hD.2.2.1 hI.2.2.1 hB with ⟨e1, _⟩ | ⟨k, e, ma, P, Q, _, _, _, _, _, _, e2⟩
    · subst e1
      exact ⟨fun _ => h M R (Dm.refl A M) hD, fun q => absurd (by decide) q⟩
    · rw [hnx] at e2; cases e2
  | succ n ih =>
    intro M D R v hm hs hD ho hI hge hn hc hB h
    have hbd := hI.bd htk ht.2
    unfold V_X7_pass_95
    rcases Bst_nx hD.2.2.1 hI.2.2.1 hB with ⟨e1, e2⟩ | ⟨k, e, ma, P, Q, hR, ev, hno, hk, el, hle, hnx⟩
    · subst e1
      have : endF tk t (n + 1) D = D := by unfold endF; rw [e2]
      rw [this] at h
      exact ⟨fun _ => h M R (Dm.refl A M) hD, fun q => absurd (by decide) q⟩
    · subst ev
      have hR96 := hD.2.2.1.len hI.1
      have hPl : P.length < R.length := by rw [hR, List.length_append, List.length_cons]; omega
      have ee : e = t := by
        have := hge k hk (e, ma) (by rw [el]; exact List.mem_cons_self)
        simp only at this
        omega
      have hE : endF tk t (n + 1) D = endF tk t n (dkE tk k D) := by conv => lhs; unfold endF; rw [hnx]
      rw [hE] at h
      rw [q_0, i32_lt (by omega) (by omega) (by omega) (by omega), hn]
      refine ⟨fun q => absurd q (by omega), fun _ => ⟨hs.2.2.2.2.1.1, ?_⟩⟩
      rw [← ee]
      have hmu := mu_en (tk := tk) hk el
      have hI' := hI.en htk hk el (by omega)
      have hcE := dC_dkE tk k D
      refine s7_endr hs hD ho hI.1 hI.2.1 hR hno hk el (hI.us hk el) (by omega) (fun M2 R2 g2 d2 => kV_i ⟨(g2.sta hs).2.2.2.2.1.1, ?_⟩)
      have hs2 := g2.sta hs
      have hn2 : mI M2 (A 11) 52 = i32 t := by rw [g2.2.2.2.2.2.2 52 (by decide) (by decide)]; exact hn
      rw [hn2]
      refine s7_ending hs2 d2.2.1 (d2.2.2.1.len hI'.1) (d2.bd (hI'.bd htk ht.2)) (by omega) (fun v2 hB2 => kI_i ?_)
      refine ih M2 _ R2 v2 (by omega) hs2 d2 (g2.ov hs ho) hI' (fun j hj q hq => ?_) hn2 (by omega) hB2 (fun M' R' g' d' => h M' R' (g2.trans g') d')
      rw [dkE_cons el] at hq
      have htkk := htk k hk
      split at hq
      · have hq' : q ∈ va_up (dR D) k _ j := hq
        by_cases c : j = k
        · subst c; rw [va_up_self] at hq'; exact hge j hj q (by rw [el]; exact List.mem_cons_of_mem _ hq')
        · rw [va_up_ne _ _ c] at hq'; exact hge j hj q hq'
      · split at hq
        · rename_i w hw hr
          have hq' : q ∈ va_up (va_up (dR D) k _) k (va_up (dR D) k _ k ++ [(e + tk k, w)]) j := hq
          by_cases c : j = k
          · subst c
            rw [va_up_self, va_up_self, hr, List.nil_append, List.mem_singleton] at hq'
            subst hq'
            simp only; omega
          · rw [va_up_ne _ _ c, va_up_ne _ _ c] at hq'; exact hge j hj q hq'
        · have hq' : q ∈ va_up (dR D) k _ j := hq
          by_cases c : j = k
          · subst c; rw [va_up_self] at hq'; exact hge j hj q (by rw [el]; exact List.mem_cons_of_mem _ hq')
          · rw [va_up_ne _ _ c] at hq'; exact hge j hj q hq'
/-- .. and in wake -/
theorem s7_w37 {K : Rs → Mm → Prop} {A : Nat → Nat} {us : Nat → Bool} {tk ov : Nat → Int} {t : Int} {l1 : Int32} (ht : 0 ≤ t ∧ t ≤ 157785119) (htk : tkOk tk) :
    ∀ (n : Nat) (M : Mm) (D : Dk) (R : List (Nat × Int × Int)) (v : Int), mu D ≤ n → Sta A M → DkM A M us D R → OvM A M tk ov → Iv t us tk D → mI M (A 11) 52 = i32 t → dC D + 2 * n + 2 < 2000000000 → Bst R t R.length v →
      (∀ M' R', Dm A M M' → DkM A M' us (endF tk t n D) R' → ∃ y, V_X7_wake_66 K y M' (A 11) l1 0) → V_X7_wake_37 K (n + 1) M (A 11) l1 (i32 v) := by
  intro n
  induction n with
  | zero =>
    intro M D R v hm hs hD ho hI hn hc hB h
    have hnx := nx_mu (D := D) (t := t) (by omega)
    unfold V_X7_wake_37
    rcases Bst_nx hD.2.2.1 hI.2.2.1 hB with ⟨e1, _⟩ | ⟨k, e, ma, P, Q, _, _, _, _, _, _, e2⟩
    · subst e1
      exact ⟨fun _ => h M R (Dm.refl A M) hD, fun q => absurd (by decide) q⟩
    · rw [hnx] at e2; cases e2
  | succ n ih =>
    intro M D R v hm hs hD ho hI hn hc hB h
    unfold V_X7_wake_37
    rcases Bst_nx hD.2.2.1 hI.2.2.1 hB with ⟨e1, e2⟩ | ⟨k, e, ma, P, Q, hR, ev, hno, hk, el, hle, hnx⟩
    · subst e1
      have : endF tk t (n + 1) D = D := by unfold endF; rw [e2]
      rw [this] at h
      exact ⟨fun _ => h M R (Dm.refl A M) hD, fun q => absurd (by decide) q⟩
    · subst ev
      have hR96 := hD.2.2.1.len hI.1
      have hPl : P.length < R.length := by rw [hR, List.length_append, List.length_cons]; omega
      have hgx : R.getD P.length (0, 0, 0) = (k, e, ma) := by rw [hR]; simp [List.getD_eq_getElem?_getD]
      have hrow := (hD.2.1.2 P.length hPl).2.1
      rw [hgx] at hrow
      have p47 := hs.2.2.2.2.1.p 47 9 100 (by decide)
      have hE : endF tk t (n + 1) D = endF tk t n (dkE tk k D) := by conv => lhs; unfold endF; rw [hnx]
      rw [hE] at h
      rw [q_0, i32_lt (by omega) (by omega) (by omega) (by omega)]
      refine ⟨fun q => absurd q (by omega), fun _ => ⟨hs.2.2.2.2.1.1, A 247, p47.1, p47.2.1, by rw [p47.2.2.1]; exact i32_in (by omega) (by omega) (by omega), ?_⟩⟩
      rw [i32_clamp (by omega) (by omega), Int.toNat_natCast, hrow]
      have hmu := mu_en (tk := tk) hk el
      have hI' := hI.en htk hk el (by omega)
      have hcE := dC_dkE tk k D
      refine s7_endr hs hD ho hI.1 hI.2.1 hR hno hk el (hI.us hk el) (by omega) (fun M2 R2 g2 d2 => kV_i ⟨(g2.sta hs).2.2.2.2.1.1, ?_⟩)
      have hs2 := g2.sta hs
      have hn2 : mI M2 (A 11) 52 = i32 t := by rw [g2.2.2.2.2.2.2 52 (by decide) (by decide)]; exact hn
      rw [hn2]
      refine s7_ending hs2 d2.2.1 (d2.2.2.1.len hI'.1) (d2.bd (hI'.bd htk ht.2)) (by omega) (fun v2 hB2 => kI_i ?_)
      exact ih M2 _ R2 v2 (by omega) hs2 d2 (g2.ov hs ho) hI' hn2 (by omega) hB2 (fun M' R' g' d' => h M' R' (g2.trans g') d')
